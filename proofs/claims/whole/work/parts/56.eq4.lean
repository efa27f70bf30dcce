/-! THE TWO READERS: units -/
section EQ4
variable {I0 : pd_I} {tx : Nat → Int32} {P P' P0 P1 P2 P3 P4 P5 : pd_P} {Q Q' Q0 Q1 Q2 Q2x Q3 Q4 : pq} {m i dp : Nat} {b b1 b2 : Bool} {r r' c s mk : Int32} {e u : pd_P → Bool × pd_P}
theorem pk_tx (H : Tx I0 m tx) (hr : pR P = false) : pk I0 m P = chA tx m (pA P) := by
  rw [pk_t hr]
  unfold chA
  by_cases k : pA P < m
  · rw [if_pos k, if_pos k, H.e _ k]
  · rw [if_neg k, if_neg k]
theorem tx_0 (H : Tx I0 m tx) (hi : i < m) : tx i ≠ 0 := by
  intro h
  have := (H.c _ hi).1
  rw [← H.e _ hi, h] at this
  exact absurd this (by decide)
theorem qd5 (h : dp ≤ 5) : (Int32.ofNat dp = 5) = (dp = 5) := by
  have : dp = 0 ∨ dp = 1 ∨ dp = 2 ∨ dp = 3 ∨ dp = 4 ∨ dp = 5 := by omega
  rcases this with rfl | rfl | rfl | rfl | rfl | rfl <;> simp <;> decide
def sOK (s : Int32) : Prop := s = 4 ∨ s = 5 ∨ s = 6 ∨ s = 7 ∨ s = 8 ∨ s = 9
theorem sOK.n2 (h : sOK s) : s ≠ 2 ∧ s ≠ 3 := by rcases h with rfl | rfl | rfl | rfl | rfl | rfl <;> decide
theorem rr_si_no (H : Tx I0 m tx) (hs : sOK s) (hi : i ≤ m) (hb : qs Q + qh Q ≤ 62) (hno : i < m → (qsi s (tx i) Q).1 = -1) : RR tx m s i Q (.inl i) := by
  by_cases h : i < m
  · have t : RT (tx i) s Q (qsi s (tx i) Q).1 (qsi s (tx i) Q).2 := .si (tx_0 H h) hs hb
    rw [hno h] at t
    refine .no hi (Q' := (qsi s (tx i) Q).2) ?_
    unfold chA
    rw [if_pos h]
    exact t
  · have e : i = m := by omega
    subst e
    exact .out hs.n2.1 hs.n2.2
theorem rr_si (H : Tx I0 m tx) (hs : sOK s) (hi : i < m) (hb : qs Q + qh Q ≤ 62) (he : qsi s (tx i) Q = (r, Q')) (h0 : 0 ≤ r) (h1 : r ≠ 10) : ∀ o, RR tx m r (i + 1) Q' o → RR tx m s i Q o := by
  intro o h
  have t : RT (tx i) s Q (qsi s (tx i) Q).1 (qsi s (tx i) Q).2 := .si (tx_0 H hi) hs hb
  rw [he] at t
  exact .go hi t h0 h1 h
theorem rr_cl_no (hR : Red 1 Q2x Q3) (hi : i ≤ m) (hq : qab Q3 = mk) (hb : qs Q3 + qh Q3 ≤ 63) (hk : rk (chA tx m i) = 0) (n1 : chA tx m i = 93 → mk ≠ 5 ∧ mk ≠ 7) (n2 : chA tx m i = 41 → mk ≠ 6) (n3 : chA tx m i = 123 → (mk = 2 ∨ mk = 3) → qd Q3 = 5) (n4 : isE (chA tx m i) → mk ≠ 1 ∧ mk ≠ 4) : RR tx m 2 i Q2x (.inl i) := by
  obtain ⟨k1, k2⟩ := hR.ok
  have t : RT (chA tx m i) 2 Q2x (-1) (rdc 1 Q2x) := .no hk k1 (by rw [k2]; exact hb) (by rw [k2, hq]; exact n1) (by rw [k2, hq]; exact n2) (by rw [k2, hq]; exact n3) (by rw [k2, hq]; exact n4)
  exact .no hi t
theorem qpd_ok (h : qd Q = Int32.ofNat dp) (h5 : dp < 5) (hmk : mk < 10) : qpd Q mk = (1, qpu (sD Q (qd Q + 1)) mk) := by
  unfold qpd
  rw [h, if_neg (by rw [qd5 (by omega)]; omega), if_pos hmk]
theorem qpd_no (h : qd Q = Int32.ofNat dp) (h5 : dp = 5) : (qpd Q mk).1 = -1 := by
  unfold qpd
  rw [h, if_pos (by rw [qd5 (by omega)]; exact h5)]
theorem qwh_h : qh (qwh Q) = qh Q := by unfold qwh; split <;> rfl
theorem qwh_t : qt (qwh Q) = qt Q - 1 := by unfold qwh; split <;> rfl
theorem qwh_s : qs (qwh Q) = qs Q := by unfold qwh; split <;> rfl
theorem qwh_d : qd (qwh Q) = qd Q := by unfold qwh; split <;> rfl
theorem qwh_g : qg (qwh Q) = qg Q := by unfold qwh; split <;> rfl
theorem qwh_n : qn (qwh Q) = qn Q := by unfold qwh; split <;> rfl
theorem qwh_o : qo (qwh Q) = qo Q := by unfold qwh; split <;> rfl
theorem qwh_f : qf (qwh Q) = qf Q := by unfold qwh; split <;> rfl
theorem qwh_r : qr (qwh Q) = qr Q := by unfold qwh; split <;> rfl
theorem qwh_c : cq (qwh Q) = cq Q := by unfold qwh; split <;> rfl
theorem qwh_a : aq (qwh Q) = aq Q := by unfold qwh; split <;> rfl
theorem qwh_x : xq (qwh Q) = xq Q := by unfold qwh; split <;> rfl
theorem qwh_m (h : qr Q (qt Q - 1) = pd_b b) : qm (qwh Q) = (qm Q || b) := by
  unfold qwh
  rw [h]
  cases b
  · rw [if_pos (show pd_b false = 0 from rfl), Bool.or_false]; rfl
  · rw [if_neg (show ¬ (pd_b true = 0) by decide), Bool.or_true]; rfl
/-- the row's opening, of a value (6, 5) or of a setting (5, 7) -/
theorem row_c (H : Tx I0 m tx) (hs : (s = 6 ∧ mk = 5) ∨ (s = 5 ∧ mk = 7)) (hdp : dp ≤ 5) (he : dp < 5 → ∀ P Q, Pre m P Q → qd Q = Int32.ofNat (dp + 1) → rk (qab Q) < 1 → qab Q ≠ 8 → EC I0 tx m P Q (e P)) (hp : Pre m P Q) (hd : qd Q = Int32.ofNat dp) :
    RF tx m s P Q (rowP I0 m dp e P) ∨ ∃ P3 Q3 b Q2x, pA P < m ∧ Val m (adv P) (qpu (sD Q (qd Q + 1)) mk) P3 Q3 b ∧ Red 1 Q2x Q3 ∧ pA P3 < m ∧ tx (pA P3) = 93 ∧ rowP I0 m dp e P = adv (add (ni P3 b) 4 0) ∧ ∀ o, RR tx m 2 (pA P3) Q2x o → RR tx m s (pA P) Q o := by
  have hm := H.m
  have x1 := hp.b1
  have x2 := hp.i
  have hsO : sOK s := by rcases hs with ⟨rfl, _⟩ | ⟨rfl, _⟩; exact Or.inr (Or.inr (Or.inl rfl)); exact Or.inr (Or.inl rfl)
  have qe : ∀ c, qsi s c Q = if c = 91 then qpd Q mk else (-1, Q) := by
    intro c
    rcases hs with ⟨rfl, rfl⟩ | ⟨rfl, rfl⟩
    · unfold qsi; rw [if_neg (by decide), if_neg (by decide), if_pos rfl]
    · unfold qsi; rw [if_neg (by decide), if_pos rfl]
  by_cases h5 : 5 ≤ dp
  · have ep : opn I0 m P 91 dp = (false, rfs P) := by unfold opn; rw [if_pos h5]
    left
    unfold rowP
    rw [ep, if_neg Bool.false_ne_true]
    refine ⟨rfl, hp.i, rr_si_no H hsO hp.i (by omega) (fun hi => ?_)⟩
    rw [qe]
    split
    · exact qpd_no hd (by omega)
    · rfl
  · by_cases hc : pk I0 m P = 91
    · have ep : opn I0 m P 91 dp = (true, adv P) := by unfold opn nd; rw [if_neg h5, if_pos hc]
      obtain ⟨hA, htx⟩ := pk_at H hp.r hc (by decide)
      have hgo := rr_si (Q := Q) H hsO hA (by omega) (by rw [htx, qe, if_pos rfl]; exact qpd_ok hd (by omega) (by rcases hs with ⟨_, rfl⟩ | ⟨_, rfl⟩ <;> decide)) (show (0 : Int32) ≤ 1 by decide) (show (1 : Int32) ≠ 10 by decide)
      have pre := pre_push (mk := mk) (dd := qd Q + 1) hp hA hm
      have hmk8 : mk ≠ 8 := by rcases hs with ⟨_, rfl⟩ | ⟨_, rfl⟩ <;> decide
      have hmk1 : rk mk < 1 := by rcases hs with ⟨_, rfl⟩ | ⟨_, rfl⟩ <;> decide
      obtain ⟨hE, hEn⟩ := he (by omega) _ _ pre (by show qd Q + 1 = _; rw [hd, pd_suc]) (by rw [qab_pu]; exact hmk1) (by rw [qab_pu]; exact hmk8)
      have eA : pA (adv P) = pA P + 1 := pA_adv (by omega)
      rw [eA] at hEn
      unfold rowP
      rw [ep, if_pos rfl]
      show RF tx m s P Q (nd I0 m (add (ni (e (adv P)).2 (e (adv P)).1) 4 0) 93).2 ∨ _
      cases hr : pR (e (adv P)).2
      · obtain ⟨Q2x, Q3, hv, hR, hh, hrun⟩ := hE.val hr
        rw [eA] at hrun
        have epk : pk I0 m (add (ni (e (adv P)).2 (e (adv P)).1) 4 0) = pk I0 m (e (adv P)).2 := by unfold pk; rw [pR_add, pA_add, pR_ni, pA_ni]
        by_cases hc2 : pk I0 m (e (adv P)).2 = 93
        · right
          obtain ⟨hA2, htx2⟩ := pk_at H hr hc2 (by decide)
          refine ⟨(e (adv P)).2, Q3, (e (adv P)).1, Q2x, hA, hv, hR, hA2, htx2, ?_, fun o h => hgo _ (hrun _ h)⟩
          show (nd I0 m (add (ni (e (adv P)).2 (e (adv P)).1) 4 0) 93).2 = _
          unfold nd
          rw [epk, if_pos hc2]
        · left
          have en : nd I0 m (add (ni (e (adv P)).2 (e (adv P)).1) 4 0) 93 = (false, rfs (add (ni (e (adv P)).2 (e (adv P)).1) 4 0)) := by
            unfold nd; rw [epk, if_neg hc2]
          rw [en]
          have ea : pA (rfs (add (ni (e (adv P)).2 (e (adv P)).1) 4 0)) = pA (e (adv P)).2 := by rw [pA_rfs, pA_add, pA_ni]
          refine ⟨rfl, ?_, ?_⟩
          · show pA (rfs _) ≤ m
            rw [ea]; exact hv.pre.i
          · show RR tx m s (pA P) Q (.inl (pA (rfs _)))
            rw [ea]
            by_cases hk : rk (pk I0 m (e (adv P)).2) = 0
            · rw [pk_tx H hr] at hk hc2
              have y1 := hv.pre.b1
              have y2 := hv.pre.i
              refine hgo _ (hrun _ (rr_cl_no hR hv.pre.i (mk := mk) (by rw [hv.ctx.ab, qab_pu]) (by omega) hk (fun h => absurd h hc2) (fun _ => ?_) (fun _ h => ?_) (fun _ => ?_)))
              · rcases hs with ⟨_, rfl⟩ | ⟨_, rfl⟩ <;> decide
              · exfalso
                rcases hs with ⟨_, rfl⟩ | ⟨_, rfl⟩ <;> rcases h with h | h <;> exact absurd h (by decide)
              · rcases hs with ⟨_, rfl⟩ | ⟨_, rfl⟩ <;> decide
            · exact hgo _ (hEn hr hk)
      · left
        rcases hE with ⟨_, k2, k3⟩ | ⟨_, _, hv, _⟩
        · obtain ⟨n1, n2⟩ := nd_2 (I0 := I0) (m := m) (P := add (ni (e (adv P)).2 (e (adv P)).1) 4 0) (y := 93) (by decide) (by rw [pR_add, pR_ni]; exact hr)
          rw [pA_add, pA_ni] at n1
          refine ⟨n2, by rw [n1]; exact k2, ?_⟩
          rw [n1]
          rw [eA] at k3
          exact hgo _ k3
        · have := hv.pre.r
          rw [hr] at this; cases this
    · have ep : opn I0 m P 91 dp = (false, rfs P) := by unfold opn nd; rw [if_neg h5, if_neg hc]
      left
      unfold rowP
      rw [ep, if_neg Bool.false_ne_true]
      refine ⟨rfl, hp.i, rr_si_no H hsO hp.i (by omega) (fun hi => ?_)⟩
      rw [pk_tx H hp.r] at hc
      unfold chA at hc
      rw [if_pos hi] at hc
      rw [qe, if_neg hc]
/-- a row's value is read -/
theorem val_row {dd : Int32} (hp : Pre m P Q) (hA : pA P + 1 < m) (hm : m ≤ 48) (hdd : dd - 1 = qd Q) (hv : Val m (adv (adv P)) (qpu (sD Q dd) 5) P3 Q3 b) (hA3 : pA P3 < m) : Val m P Q (add (adv (add (ni P3 b) 4 0)) 5 0) (qop (qem (qwh (qof Q3)) 3 0) false) false := by
  have e1 : pA (adv P) = pA P + 1 := pA_adv (by omega)
  have e2 : pA (adv (adv P)) = pA P + 2 := by rw [pA_adv (by omega), e1]
  have gr := hv.gr
  rw [e2, pN_adv, pN_adv] at gr
  have x1 := hp.b1
  have x2 := hp.b2
  have x3 := hp.b3
  have y1 := hv.pre.b1
  have y2 := hv.pre.b2
  have y3 := hv.pre.b3
  have y5 := hv.i
  rw [e2] at y5
  have t3 : qt Q3 = qt Q + 1 := hv.t
  have h3 : qh Q3 = qh Q + 1 := hv.ctx.h
  have l1 : pN (ni P3 b) < 49 := by rw [pN_ni]; omega
  have n1 : pN (add (ni P3 b) 4 0) = pN P3 + 1 := by rw [pN_add l1, pN_ni]
  have l2 : pN (adv (add (ni P3 b) 4 0)) < 49 := by rw [pN_adv, n1]; omega
  have nA : pA (add (adv (add (ni P3 b) 4 0)) 5 0) = pA P3 + 1 := by
    rw [pA_add, pA_adv (by rw [pA_add, pA_ni]; omega), pA_add, pA_ni]
  have nN : pN (add (adv (add (ni P3 b) 4 0)) 5 0) = pN P3 + 2 := by rw [pN_add l2, pN_adv, n1]
  have nW : pW (add (adv (add (ni P3 b) 4 0)) 5 0) = (pW P3 || b) := by rw [pW_add, pW_adv, pW_add, pW_ni]
  have rt : qr Q3 (qt Q3 - 1) = pd_b b := by rw [t3, Nat.add_sub_cancel]; exact hv.tr
  have ty3 : (Fq Q3 (qs Q3)).2 = tg b :: (Fq Q (qs Q)).2 := hv.ty
  have cc : cq (qwh (qof Q3)) = cq Q3 := qwh_c
  have ca : aq (qwh (qof Q3)) = aq Q3 := qwh_a
  have cx : xq (qwh (qof Q3)) = xq Q3 := qwh_x
  have cs : qs (qwh (qof Q3)) = qs Q3 := qwh_s
  have cF : Fq (qwh (qof Q3)) = Fq Q3 := by unfold Fq; rw [cc, ca]
  have ch : qh (qwh (qof Q3)) = qh Q3 - 1 := qwh_h
  have ct : qt (qwh (qof Q3)) = qt Q3 - 1 := qwh_t
  have cd : qd (qwh (qof Q3)) = qd Q3 - 1 := qwh_d
  have cg : qg (qwh (qof Q3)) = qg Q3 := qwh_g
  have cn : qn (qwh (qof Q3)) = qn Q3 := qwh_n
  have co : qo (qwh (qof Q3)) = qo Q3 := qwh_o
  have cf : qf (qwh (qof Q3)) = qf Q3 := qwh_f
  have cr : qr (qwh (qof Q3)) = qr Q3 := qwh_r
  have cm : qm (qwh (qof Q3)) = (qm Q3 || b) := qwh_m (Q := qof Q3) (b := b) rt
  generalize qwh (qof Q3) = X at *
  have o1 : pO (add (adv (add (ni P3 b) 4 0)) 5 0) = pd_up (pd_up (pO P3) (pN P3) 4) (pN P3 + 1) 5 := by
    rw [pO_add l2, pO_adv, pN_adv, n1, pO_add l1, pO_ni, pN_ni]
  have v1 : pV (add (adv (add (ni P3 b) 4 0)) 5 0) = pd_up (pd_up (pV P3) (pN P3) 0) (pN P3 + 1) 0 := by
    rw [pV_add l2, pV_adv, pN_adv, n1, pV_add l1, pV_ni, pN_ni]
  have sg3 : Seg P Q P3 (X) := (hv.seg.same0 (P := P) (Q := Q) rfl rfl rfl rfl (by rw [pN_adv, pN_adv]) (by rw [pO_adv, pO_adv]) (by rw [pV_adv, pV_adv]) (fun k => by rw [pW_adv, pW_adv] at k; exact k)).same cs cc ca cx rfl rfl rfl (fun k => k)
  obtain ⟨sg, ty⟩ := Seg.emit (P := P3) (Q := X) (P' := add (adv (add (ni P3 b) 4 0)) 5 0) (Q' := qop (qem (X) 3 0) false) (op := 3) (a := 0) sg3.n rfl (by rw [← cq_em (a := 0)]; rfl) (by rw [← aq_em (o := 3)]; rfl) rfl (by rw [nN]; rfl) (fun z hz => by
      rw [o1, v1]
      unfold pd_up
      rw [if_neg (by omega), if_neg (by omega), if_neg (by omega), if_neg (by omega)]
      exact ⟨rfl, rfl⟩) (fun k => by
      have hb : b = false := by
        rw [nW] at k
        cases b
        · rfl
        · rw [Bool.or_true] at k; cases k
      rw [cF, cs, ty3, show tg b = 0 by rw [hb]; rfl]
      refine .rw ?_ ?_
      · rw [o1]; unfold pd_up; rw [if_neg (by omega), if_pos rfl]
      · rw [o1]; unfold pd_up; rw [if_pos rfl]) (fun k => by rw [nW] at k; cases hq : pW P3; rfl; rw [hq] at k; cases k)
  have sgA := sg3.trans sg
  have qd3 : qd Q3 = dd := hv.ctx.d
  refine ⟨⟨by rw [pR_add, pR_adv, pR_add, pR_ni]; exact hv.pre.r, by rw [nA]; omega, ?_, ?_, ?_, ?_, by rw [nN, nA]; omega, sgA.n⟩, ⟨?_, ?_, ?_, ?_⟩, ?_, ?_, ?_, ?_, ?_, by rw [nA]; omega, by rw [nN, nA]; omega, ?_, ?_, sgA, ?_⟩
  · rw [nW, hv.pre.w]
    exact cm.symm
  · rw [pS_add, pS_adv, pS_add, pS_ni, hv.pre.c]
    exact cn.symm
  · show qs X + 1 + qh X ≤ _
    rw [cs, ch, nA]
    omega
  · show qt X + 1 ≤ _
    rw [ct, nA]
    omega
  · show qh X = _
    rw [ch]
    omega
  · intro j hj
    show qo X j = _
    rw [co, hv.ctx.o j (show j < qh Q + 1 by omega)]
    show pd_up (qo Q) (qh Q) 5 j = _
    unfold pd_up; rw [if_neg (by omega)]
  · intro j hj
    show qf X j = _
    rw [cf, hv.ctx.f j (show j < qh Q + 1 by omega)]
    show pd_up (qf Q) (qh Q) (Int32.ofNat (qs Q)) j = _
    unfold pd_up; rw [if_neg (by omega)]
  · show qd X = _
    rw [cd, qd3, hdd]
  · exact cg.trans hv.g
  · exact cn.trans hv.n
  · show qt X + 1 = _
    rw [ct]
    omega
  · show pd_up (qr X) (qt X) (pd_b false) (qt Q) = _
    rw [ct]
    unfold pd_up
    rw [if_pos (show qt Q = qt Q3 - 1 by omega)]
  · intro j hj
    show pd_up (qr X) (qt X) (pd_b false) j = _
    rw [ct, cr]
    unfold pd_up
    rw [if_neg (show ¬ (j = qt Q3 - 1) by omega)]
    exact hv.tb j hj
  · have h9 : qs Q < qs Q3 := hv.s
    show _ < qs X + 1
    rw [cs]; omega
  · intro j k1 k2
    have k2' : j < qs Q3 + 1 := by
      have : j < qs X + 1 := k2
      rw [cs] at this; exact this
    rw [show cq (qop (qem X 3 0) false) = cq (qem X 3 0) from rfl, cq_em, cs]
    unfold pd_up
    by_cases j3 : j = qs Q3
    · rw [if_pos j3]; exact Or.inl (by decide)
    · rw [if_neg j3, cc]
      exact hv.e j k1 (by omega)
  · rw [ty, cF, cs, ty3]; rfl
/-- brackets -/
theorem val_par {dd : Int32} (hp : Pre m P Q) (hA : pA P < m) (hm : m ≤ 48) (hdd : dd - 1 = qd Q) (hv : Val m (adv P) (qpu (sD Q dd) 6) P3 Q3 b) (hA3 : pA P3 < m) : Val m P Q (adv P3) (qof Q3) b := by
  have e1 : pA (adv P) = pA P + 1 := pA_adv (by omega)
  have nA : pA (adv P3) = pA P3 + 1 := pA_adv (by omega)
  have gr := hv.gr
  rw [e1, pN_adv] at gr
  have y1 := hv.pre.b1
  have y2 := hv.pre.b2
  have y3 := hv.pre.b3
  have y5 := hv.i
  rw [e1] at y5
  have t3 : qt Q3 = qt Q + 1 := hv.t
  have h3 : qh Q3 = qh Q + 1 := hv.ctx.h
  have qd3 : qd Q3 = dd := hv.ctx.d
  have sgA : Seg P Q (adv P3) (qof Q3) := (hv.seg.same0 (P := P) (Q := Q) rfl rfl rfl rfl pN_adv.symm pO_adv.symm pV_adv.symm (fun k => by rw [pW_adv] at k; exact k)).same rfl rfl rfl rfl pN_adv pO_adv pV_adv (fun k => by rw [pW_adv] at k; exact k)
  refine ⟨⟨by rw [pR_adv]; exact hv.pre.r, by rw [nA]; omega, by rw [pW_adv]; exact hv.pre.w, by rw [pS_adv]; exact hv.pre.c, ?_, ?_, by rw [pN_adv, nA]; omega, sgA.n⟩, ⟨?_, ?_, ?_, ?_⟩, hv.g, hv.n, hv.t, hv.tr, hv.tb, by rw [nA]; omega, by rw [pN_adv, nA]; omega, hv.s, hv.e, sgA, hv.ty⟩
  · show qs Q3 + (qh Q3 - 1) ≤ _
    rw [nA]; omega
  · show qt Q3 ≤ _
    rw [nA]; omega
  · show qh Q3 - 1 = _
    omega
  · intro j hj
    show qo Q3 j = _
    rw [hv.ctx.o j (show j < qh Q + 1 by omega)]
    show pd_up (qo Q) (qh Q) 6 j = _
    unfold pd_up; rw [if_neg (by omega)]
  · intro j hj
    show qf Q3 j = _
    rw [hv.ctx.f j (show j < qh Q + 1 by omega)]
    show pd_up (qf Q) (qh Q) (Int32.ofNat (qs Q)) j = _
    unfold pd_up; rw [if_neg (by omega)]
  · show qd Q3 - 1 = _
    rw [qd3, hdd]
/-- made whole -/
theorem val_wh {dd : Int32} (hp : Pre m P Q) (hA : pA P < m) (hm : m ≤ 48) (hdd : dd - 1 = qd Q) (hv : Val m (adv P) (qpu (sD Q dd) 8) P3 Q3 b) : Val m P Q (if b = true then add P3 6 0 else P3) (ov1 Q3) false := by
  have e1 : pA (adv P) = pA P + 1 := pA_adv (by omega)
  have gr := hv.gr
  rw [e1, pN_adv] at gr
  have x3 := hp.b3
  have y0 := hv.pre.i
  have y1 := hv.pre.b1
  have y2 := hv.pre.b2
  have y3 := hv.pre.b3
  have y5 := hv.i
  rw [e1] at y5
  have t3 : qt Q3 = qt Q + 1 := hv.t
  have h3 : qh Q3 = qh Q + 1 := hv.ctx.h
  have qd3 : qd Q3 = dd := hv.ctx.d
  have l1 : pN P3 < 49 := by omega
  have ty3 : (Fq Q3 (qs Q3)).2 = tg b :: (Fq Q (qs Q)).2 := hv.ty
  have sg3 : Seg P Q P3 Q3 := hv.seg.same0 (P := P) (Q := Q) rfl rfl rfl rfl pN_adv.symm pO_adv.symm pV_adv.symm (fun k => by rw [pW_adv] at k; exact k)
  have cc : cq (ov1 Q3) = pd_up (cq Q3) (qs Q3) 5 := by rw [← cq_em (a := 0)]; rfl
  have ca : aq (ov1 Q3) = pd_up (aq Q3) (qs Q3) 0 := by rw [← aq_em (o := 5)]; rfl
  have nA : pA (if b = true then add P3 6 0 else P3) = pA P3 := by split; exact pA_add; rfl
  have nR : pR (if b = true then add P3 6 0 else P3) = pR P3 := by split; exact pR_add; rfl
  have nW : pW (if b = true then add P3 6 0 else P3) = pW P3 := by split; exact pW_add; rfl
  have nS : pS (if b = true then add P3 6 0 else P3) = pS P3 := by split; exact pS_add; rfl
  have nN : pN (if b = true then add P3 6 0 else P3) = pN P3 + tg b := by cases b; rfl; rw [if_pos rfl, pN_add l1]; rfl
  have tb1 : tg b ≤ 1 := by cases b <;> decide
  obtain ⟨sg, ty⟩ := Seg.emit (P := P3) (Q := Q3) (P' := if b = true then add P3 6 0 else P3) (Q' := ov1 Q3) (op := 5) (a := 0) hv.pre.n rfl cc ca rfl (by rw [nN, ty3]; cases b <;> rfl) (fun z hz => by
      cases b
      · exact ⟨rfl, rfl⟩
      · rw [if_pos rfl, pO_add l1, pV_add l1]
        unfold pd_up
        rw [if_neg (by omega), if_neg (by omega)]
        exact ⟨rfl, rfl⟩) (fun k => by
      rw [ty3]
      cases b
      · exact .wh0
      · refine .wh1 ?_
        rw [if_pos rfl]
        exact (at_add l1).1) (fun k => by rw [nW] at k; exact k)
  have sgA := sg3.trans sg
  refine ⟨⟨by rw [nR]; exact hv.pre.r, by rw [nA]; exact hv.pre.i, by rw [nW]; exact hv.pre.w, by rw [nS]; exact hv.pre.c, ?_, ?_, by rw [nN, nA]; omega, sgA.n⟩, ⟨?_, ?_, ?_, ?_⟩, hv.g, hv.n, hv.t, ?_, ?_, by rw [nA]; omega, by rw [nN, nA]; omega, ?_, ?_, sgA, ?_⟩
  · show qs Q3 + 1 + (qh Q3 - 1) ≤ _
    rw [nA]; omega
  · show qt Q3 ≤ _
    rw [nA]; omega
  · show qh Q3 - 1 = _
    omega
  · intro j hj
    show qo Q3 j = _
    rw [hv.ctx.o j (show j < qh Q + 1 by omega)]
    show pd_up (qo Q) (qh Q) 8 j = _
    unfold pd_up; rw [if_neg (by omega)]
  · intro j hj
    show qf Q3 j = _
    rw [hv.ctx.f j (show j < qh Q + 1 by omega)]
    show pd_up (qf Q) (qh Q) (Int32.ofNat (qs Q)) j = _
    unfold pd_up; rw [if_neg (by omega)]
  · show qd Q3 - 1 = _
    rw [qd3, hdd]
  · show pd_up (qr Q3) (qt Q3 - 1) 0 (qt Q) = _
    unfold pd_up; rw [if_pos (by omega)]; rfl
  · intro j hj
    show pd_up (qr Q3) (qt Q3 - 1) 0 j = _
    unfold pd_up; rw [if_neg (by omega)]
    exact hv.tb j hj
  · have h9 : qs Q < qs Q3 := hv.s
    show _ < qs Q3 + 1
    omega
  · intro j k1 k2
    have k2' : j < qs Q3 + 1 := k2
    rw [cc]
    unfold pd_up
    by_cases j3 : j = qs Q3
    · rw [if_pos j3]; exact Or.inl (by decide)
    · rw [if_neg j3]
      exact hv.e j k1 (by omega)
  · rw [ty, ty3]; rfl
end EQ4
