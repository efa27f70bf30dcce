/-! THE TWO READERS: conditions, loops, two at the same time -/
section EQ10
variable {I0 : pd_I} {tx : Nat → Int32} {P P' P0 P1 P2 P3 P4 P5 P6 Pa : pd_P} {Q Q' Q0 Q1 Q2 Q2x Q3 Q4 Q5 Q6 Qa X : pq} {m i dp t : Nat} {b b1 b2 w : Bool} {r r' c s mk nx : Int32} {e e1 u : pd_P → Bool × pd_P} {bd : pd_P → pd_P}
theorem cq_sA {k : Nat} {v : Int32} : cq (sA Q k v) = cq Q := rfl
theorem xq_sA {k : Nat} {v : Int32} : xq (sA Q k v) = xq Q := rfl
theorem aq_sA {k : Nat} {v : Int32} : aq (sA Q (512 + k) v) = pd_up (aq Q) k v := by
  funext i
  show pd_up (qa Q) (512 + k) v (512 + i) = _
  unfold pd_up
  by_cases h : i = k
  · rw [if_pos (by omega), if_pos h]
  · rw [if_neg (by omega), if_neg h]; rfl
theorem cq_sX {k : Nat} {v : Int32} : cq (sX Q k v) = cq Q := rfl
theorem aq_sX {k : Nat} {v : Int32} : aq (sX Q k v) = aq Q := rfl
theorem xq_sX {k : Nat} {v : Int32} : xq (sX Q (512 + k) v) = pd_up (xq Q) k v := by
  funext i
  show pd_up (qx Q) (512 + k) v (512 + i) = _
  unfold pd_up
  by_cases h : i = k
  · rw [if_pos (by omega), if_pos h]
  · rw [if_neg (by omega), if_neg h]; rfl
/-- what is taken off behind a block -/
def qoff (Q : pq) : pq := sD (sH Q (qh Q - 1)) (qd Q - 1)
theorem off_h : qh (qoff Q) = qh Q - 1 := rfl
theorem off_s : qs (qoff Q) = qs Q := rfl
theorem off_t : qt (qoff Q) = qt Q := rfl
theorem off_d : qd (qoff Q) = qd Q - 1 := rfl
theorem off_n : qn (qoff Q) = qn Q := rfl
theorem off_m : qm (qoff Q) = qm Q := rfl
theorem off_o : qo (qoff Q) = qo Q := rfl
theorem off_f : qf (qoff Q) = qf Q := rfl
theorem off_c : cq (qoff Q) = cq Q := rfl
theorem off_a : aq (qoff Q) = aq Q := rfl
theorem off_x : xq (qoff Q) = xq Q := rfl
theorem chA_at (h : i < m) : chA tx m i = tx i := by unfold chA; rw [if_pos h]
/-- a condition or a loop, whole: jump says which -/
theorem cond_c (jump : Bool) (H : Tx I0 m tx) (hdp : dp ≤ 5) (hmk : (c = 63 ∧ mk = 2 ∧ jump = false) ∨ (c = 64 ∧ mk = 3 ∧ jump = true)) (he : ∀ P Q, Pre m P Q → qd Q = Int32.ofNat dp → rk (qab Q) < 1 → qab Q ≠ 8 → EC I0 tx m P Q (e P)) (hbd : dp < 5 → ∀ P Q, Pre m P Q → qd Q = Int32.ofNat (dp + 1) → (Fq Q (qs Q)).2 = [] → BC I0 tx m P Q (bd P)) (hbs : stk bd) (hp : Pre m P Q) (hd : qd Q = Int32.ofNat dp) (hty : (Fq Q (qs Q)).2 = []) (hc : pk I0 m P = c) :
    SC tx m P Q (ptH (if jump = true then add (blkS I0 m dp bd (add (ni (e (adv (sts P))).2 (e (adv (sts P))).1) 19 0)) 1 (Int32.ofNat (pN (adv (sts P)))) else blkS I0 m dp bd (add (ni (e (adv (sts P))).2 (e (adv (sts P))).1) 19 0)) (pN (ni (e (adv (sts P))).2 (e (adv (sts P))).1))) := by
  have hm := H.m
  have x1 := hp.b1
  have x2 := hp.b2
  have x3 := hp.b3
  obtain ⟨hA, _⟩ := pk_at H hp.r hc (by rcases hmk with ⟨rfl, _⟩ | ⟨rfl, _⟩ <;> decide)
  have eA : pA (adv (sts P)) = pA P + 1 := by rw [pA_adv (by rw [pA_sts]; omega), pA_sts]
  have eN : pN (adv (sts P)) = pN P := by rw [pN_adv]; rfl
  have sg0 : Seg P Q (adv (sts P)) (qpu (sN Q (qn Q + 1)) mk) := (Seg.refl hp.n).same rfl rfl rfl rfl eN (by rw [pO_adv]; rfl) (by rw [pV_adv]; rfl) (fun k => by rw [pW_adv] at k; exact k)
  have q1 : qh (qpu (sN Q (qn Q + 1)) mk) = qh Q + 1 := rfl
  have q2 : qt (qpu (sN Q (qn Q + 1)) mk) = qt Q := rfl
  have q3 : qd (qpu (sN Q (qn Q + 1)) mk) = qd Q := rfl
  have q4 : qs (qpu (sN Q (qn Q + 1)) mk) = qs Q := rfl
  have q5 : (Fq (qpu (sN Q (qn Q + 1)) mk) (qs (qpu (sN Q (qn Q + 1)) mk))).2 = [] := hty
  have q6 : qf (qpu (sN Q (qn Q + 1)) mk) (qh Q) = Int32.ofNat (qs Q) := by
    show pd_up (qf Q) (qh Q) (Int32.ofNat (qs Q)) (qh Q) = _
    unfold pd_up; rw [if_pos rfl]
  have q7 : ∀ j, j < qh Q → qo (qpu (sN Q (qn Q + 1)) mk) j = qo Q j := (Ct1.pn (Q := Q) (mk := mk)).o
  have q8 : ∀ j, j < qh Q → qf (qpu (sN Q (qn Q + 1)) mk) j = qf Q j := (Ct1.pn (Q := Q) (mk := mk)).f
  rcases test_c H hdp (c := c) (mk := mk) (by rcases hmk with ⟨h1, h2, _⟩ | ⟨h1, h2, _⟩; exact Or.inl ⟨h1, h2⟩; exact Or.inr ⟨h1, h2⟩) he hbd hbs hp hd hty hc with ⟨k1, k2, k3⟩ | ⟨P3, Q3, b, P6, Q6, ee, pre, hv, hA3, hS, hA6, ht6, eb, hrun⟩
  · left
    have f1 : pR (ptH (if jump = true then add (blkS I0 m dp bd (add (ni (e (adv (sts P))).2 (e (adv (sts P))).1) 19 0)) 1 (Int32.ofNat (pN (adv (sts P)))) else blkS I0 m dp bd (add (ni (e (adv (sts P))).2 (e (adv (sts P))).1) 19 0)) (pN (ni (e (adv (sts P))).2 (e (adv (sts P))).1))) = true := by
      rw [pR_pt]
      split
      · rw [pR_add]; exact k1
      · exact k1
    have f2 : pA (ptH (if jump = true then add (blkS I0 m dp bd (add (ni (e (adv (sts P))).2 (e (adv (sts P))).1) 19 0)) 1 (Int32.ofNat (pN (adv (sts P)))) else blkS I0 m dp bd (add (ni (e (adv (sts P))).2 (e (adv (sts P))).1) 19 0)) (pN (ni (e (adv (sts P))).2 (e (adv (sts P))).1))) = pA (blkS I0 m dp bd (add (ni (e (adv (sts P))).2 (e (adv (sts P))).1) 19 0)) := by
      rw [pA_pt]
      split
      · rw [pA_add]
      · rfl
    exact ⟨f1, by rw [f2]; exact k2, by rw [f2]; exact k3⟩
  · right
    rw [eb, ee]
    show ∃ Q', Sta m P Q (ptH (if jump = true then add (adv P6) 1 (Int32.ofNat (pN (adv (sts P)))) else adv P6) (pN (ni P3 b))) Q' ∧ ∀ o, RR tx m 3 (pA (ptH (if jump = true then add (adv P6) 1 (Int32.ofNat (pN (adv (sts P)))) else adv P6) (pN (ni P3 b)))) Q' o → RR tx m 0 (pA P) Q o
    rw [pN_ni]
    generalize qpu (sN Q (qn Q + 1)) mk = Q1 at *
    generalize adv (sts P) = P1 at *
    have gr := hv.gr
    rw [eA, eN] at gr
    have y1 := hv.pre.b1
    have y2 := hv.pre.b2
    have y3 := hv.pre.b3
    have y5 := hv.i
    have y6 := hv.s
    have t3 := hv.t
    have h3 := hv.ctx.h
    have l1 : pN (ni P3 b) < 49 := by rw [pN_ni]; omega
    have a4 : pA (adv (add (ni P3 b) 19 0)) = pA P3 + 1 := by rw [pA_adv (by rw [pA_add, pA_ni]; omega), pA_add, pA_ni]
    have n4 : pN (adv (add (ni P3 b) 19 0)) = pN P3 + 1 := by rw [pN_adv, pN_add l1, pN_ni]
    have w4 : pW (adv (add (ni P3 b) 19 0)) = (pW P3 || b) := by rw [pW_adv, pW_add, pW_ni]
    have o4 : pO (adv (add (ni P3 b) 19 0)) = pd_up (pO P3) (pN P3) 19 := by rw [pO_adv, pO_add l1, pO_ni, pN_ni]
    have v4 : pV (adv (add (ni P3 b) 19 0)) = pd_up (pV P3) (pN P3) 0 := by rw [pV_adv, pV_add l1, pV_ni, pN_ni]
    have gr6 := hS.gr
    rw [a4, n4] at gr6
    have z0 := hS.pre.i
    have z1 := hS.pre.b1
    have z2 := hS.pre.b2
    have z3 := hS.pre.b3
    have z5 := hS.i
    rw [a4] at z5
    have z7 := hS.seg.le
    rw [n4] at z7
    have z6 := hS.s
    rw [tsQ_s] at z6
    have h6 := hS.ctx.h
    rw [tsQ_h] at h6
    have t6 := hS.t
    rw [tsQ_t] at t6
    have d6 := hS.ctx.d
    rw [tsQ_d] at d6
    have ab6 : qab Q6 = mk + 8 := by
      rw [hS.ctx.ab, qab_of (n := qh Q3 - 1) (by rw [tsQ_h]; omega), tsQ_o]
      unfold pd_up
      rw [if_pos rfl]
    have f6 : qf Q6 (qh Q6 - 1) = Int32.ofNat (qs Q) := by
      rw [h6, hS.ctx.f _ (by rw [tsQ_h]; omega), tsQ_f, hv.ctx.f _ (by omega), show qh Q3 - 1 = qh Q by omega]
      exact q6
    have sgE : Seg P Q P3 Q3 := sg0.trans hv.seg
    obtain ⟨sh0, tyh, Fh⟩ := SegH.emit (P := P3) (Q := Q3) (P' := adv (add (ni P3 b) 19 0)) (Q' := tsQ Q3 mk) (op := 28) (a := 0) sgE (Or.inr rfl) tsQ_s (by rw [tsQ_c, cq_em]) (by rw [tsQ_a, aq_em]) tsQ_x (by rw [n4]; rfl) (fun z hz => by
      rw [o4, v4]
      unfold pd_up
      rw [if_neg (by omega), if_neg (by omega)]
      exact ⟨rfl, rfl⟩) (fun k => by rw [w4] at k; cases hq : pW P3; rfl; rw [hq] at k; cases k)
    have sh6 : SegH (qs Q3) P Q P6 Q6 := sh0.trans hS.seg
    have c28 : cq Q6 (qs Q3) = 28 := by
      rw [(hS.seg.fr (qs Q3) (by rw [tsQ_s]; omega)).1, tsQ_c, cq_em]
      unfold pd_up; rw [if_pos rfl]
    have cexp : ∀ j, qs Q ≤ j → j < qs Q3 → eop (cq Q6 j) := by
      intro j j1 j2
      rw [(hS.seg.fr j (by rw [tsQ_s]; omega)).1, tsQ_c, cq_em]
      unfold pd_up; rw [if_neg (by omega)]
      exact hv.e j (by omega) j2
    have F3 : Fq Q6 (qs Q3) = (pN P3, [tg b]) := by
      rw [hS.seg.F _ (by rw [tsQ_s]; omega), Fh]
      have e2 := hv.ty
      have e1 := hv.pre.n
      rw [q5] at e2
      exact Prod.ext e1.symm e2
    have F0 : Fq Q6 (qs Q) = Fq Q (qs Q) := by
      exact ft_congr (qs Q) (fun j hj => ⟨(sh6.fr j hj).1, Or.inl (sh6.fr j hj).2.1⟩) _ (Nat.le_refl _)
    have o6 : pO P6 (pN P3) = 19 := by
      rw [(hS.seg.fc (pN P3) (by omega)).1, o4]
      unfold pd_up; rw [if_pos rfl]
    have wb : pW P6 = false → b = false := by
      intro k
      have := hS.seg.wm k
      rw [w4] at this
      cases b
      · rfl
      · rw [Bool.or_true] at this; cases this
    have d3 : qd Q3 = qd Q := hv.ctx.d.trans q3
    have ctx6 : ∀ j, j < qh Q → qo Q6 j = qo Q j ∧ qf Q6 j = qf Q j := by
      intro j hj
      rw [hS.ctx.o j (by rw [tsQ_h]; omega), hS.ctx.f j (by rw [tsQ_h]; omega), tsQ_o, tsQ_f]
      unfold pd_up
      rw [if_neg (by omega), hv.ctx.o j (by omega), hv.ctx.f j (by omega)]
      exact ⟨q7 j hj, q8 j hj⟩
    have c512 : ∀ j, qc Q6 (512 + j) = cq Q6 j := fun j => rfl
    have eA7 : pA (adv P6) = pA P6 + 1 := pA_adv (by omega)
    cases jump
    · rw [if_neg Bool.false_ne_true]
      have hmk2 : mk = 2 := by rcases hmk with ⟨_, h, _⟩ | ⟨_, _, h⟩; exact h; cases h
      have sh7 : SegH (qs Q3) P Q (adv P6) (qoff Q6) := sh6.same off_s off_c off_a off_x pN_adv pO_adv pV_adv (fun k => by rw [pW_adv] at k; exact k)
      have Fo : Fq (qoff Q6) = Fq Q6 := by unfold Fq; rw [off_c, off_a]
      obtain ⟨sgA, FA⟩ := te_fill (p := pN P3) (b := b) (Q' := sA (qoff Q6) (512 + qs Q3) (Int32.ofNat (qs Q6))) sh7 (by rw [off_c]; exact c28) (by rw [Fo]; exact F3) (by rw [pO_adv]; exact o6) (by omega) (by rw [Fo, off_s]; exact hS.ty) (fun k => wb (by rw [pW_adv] at k; exact k)) qs_sa cq_sA (by rw [aq_sA, off_s]) xq_sA
      refine ⟨sA (qoff Q6) (512 + qs Q3) (Int32.ofNat (qs Q6)), ⟨⟨by rw [pR_pt, pR_adv]; exact hS.pre.r, by rw [pA_pt, eA7]; omega, by rw [pW_pt, pW_adv, qs_ma, off_m]; exact hS.pre.w, by rw [pS_pt, pS_adv, qs_na, off_n]; exact hS.pre.c, by rw [pA_pt, eA7, qs_sa, qs_ha, off_s, off_h]; omega, by rw [pA_pt, eA7, qs_ta, off_t]; omega, by rw [pN_pt, pA_pt, pN_adv, eA7]; omega, sgA.n⟩, ⟨by rw [qs_ha, off_h]; omega, fun j hj => by rw [qs_oa, off_o]; exact (ctx6 j hj).1, fun j hj => by rw [qs_fa, off_f]; exact (ctx6 j hj).2, by rw [qs_da, off_d, d6, d3, Int32.add_sub_cancel]⟩, by rw [qs_ta, off_t, t6]; omega, by rw [pA_pt, eA7]; omega, by rw [pN_pt, pA_pt, pN_adv, eA7]; omega, by rw [qs_sa, off_s]; omega, sgA, ?_, ?_⟩, fun o h => ?_⟩
      · rw [FA, Fo, qs_sa, off_s]; exact hS.ty
      · rw [cq_sA, off_c]; exact (cexp (qs Q) (Nat.le_refl _) (by omega)).nE
      · rw [pA_pt, eA7] at h
        refine hrun _ (.go hA6 (nx := 3) (Q' := sA (qoff Q6) (512 + qs Q3) (Int32.ofNat (qs Q6))) ?_ (by decide) (by decide) h)
        rw [ht6]
        exact .en (RE.cond (f := qs Q) (t := qs Q3) (by omega) (by rw [ab6, hmk2]; rfl) (by omega) f6 (by omega) (by omega) (by rw [c512]; exact c28) (fun j j1 j2 => by
          rw [c512]
          have := cexp j j1 j2
          intro h9; rw [h9] at this; rcases this with h | h <;> exact absurd h (by decide)))
    · rw [if_pos rfl]
      have hmk3 : mk = 3 := by rcases hmk with ⟨_, _, h⟩ | ⟨_, h, _⟩; cases h; exact h
      have l6 : pN (adv P6) < 49 := by rw [pN_adv]; omega
      have Fo : Fq (qoff Q6) = Fq Q6 := by unfold Fq; rw [off_c, off_a]
      have sh7 : SegH (qs Q3) P Q (adv P6) (qoff Q6) := sh6.same off_s off_c off_a off_x pN_adv pO_adv pV_adv (fun k => by rw [pW_adv] at k; exact k)
      obtain ⟨sgJ, tyJ⟩ := Seg.emit1 (P := adv P6) (Q := qoff Q6) (Q' := qem (qoff Q6) 29 (Int32.ofNat (qs Q))) (op := 29) (a := Int32.ofNat (qs Q)) (o := 1) (v := Int32.ofNat (pN P1)) sh7.n l6 (tyS_fin (a := 0) (by simp)).2 em_s rfl rfl xq_em (fun k => by
        have e1 : (Fq (qem (qoff Q6) 29 (Int32.ofNat (qs Q))) (qs Q)) = Fq Q (qs Q) := by
          rw [← F0, ← Fo]
          refine ft_congr (qs Q) (fun j hj => ?_) _ (Nat.le_refl _)
          rw [cq_em, aq_em, off_s]
          unfold pd_up
          rw [if_neg (by omega), if_neg (by omega)]
          exact ⟨rfl, Or.inl rfl⟩
        rw [Fo, off_s, hS.ty]
        refine .ju (at_add l6).1 ?_ (by rw [e1]; exact hty) (by omega) ?_
        · rw [(at_add l6).2, e1, eN, hp.n]
        · rw [cq_em, off_s]
          unfold pd_up
          rw [if_neg (by omega), off_c]
          exact (cexp (qs Q) (Nat.le_refl _) (by omega)).nE)
      have sh8 := sh7.trans sgJ
      have c8 : cq (qem (qoff Q6) 29 (Int32.ofNat (qs Q))) (qs Q3) = 28 := by
        rw [cq_em, off_s]; unfold pd_up; rw [if_neg (by omega), off_c]; exact c28
      have F8 : Fq (qem (qoff Q6) 29 (Int32.ofNat (qs Q))) (qs Q3) = (pN P3, [tg b]) := by
        rw [sgJ.F _ (by rw [off_s]; omega), Fo]; exact F3
      have o8 : pO (add (adv P6) 1 (Int32.ofNat (pN P1))) (pN P3) = 19 := by
        rw [pO_add l6, pN_adv]; unfold pd_up; rw [if_neg (by omega), pO_adv]; exact o6
      have s8 : qs (qem (qoff Q6) 29 (Int32.ofNat (qs Q))) = qs Q6 + 1 := em_s.trans (by rw [off_s])
      have c8' : ∀ j, j < qs Q3 → cq (qem (qoff Q6) 29 (Int32.ofNat (qs Q))) j = cq Q6 j := by
        intro j hj
        rw [cq_em, off_s]; unfold pd_up; rw [if_neg (by omega), off_c]
      have ty8 : (Fq (qem (qoff Q6) 29 (Int32.ofNat (qs Q))) (qs (qem (qoff Q6) 29 (Int32.ofNat (qs Q))))).2 = [] := by rw [tyJ]; exact (tyS_fin (by simp)).1
      have e_h : qh (qem (qoff Q6) 29 (Int32.ofNat (qs Q))) = qh Q6 - 1 := em_h.trans off_h
      have e_t : qt (qem (qoff Q6) 29 (Int32.ofNat (qs Q))) = qt Q6 := em_t.trans off_t
      have e_d : qd (qem (qoff Q6) 29 (Int32.ofNat (qs Q))) = qd Q6 - 1 := em_d.trans off_d
      have e_n : qn (qem (qoff Q6) 29 (Int32.ofNat (qs Q))) = qn Q6 := em_n.trans off_n
      have e_m : qm (qem (qoff Q6) 29 (Int32.ofNat (qs Q))) = qm Q6 := em_m.trans off_m
      have e_o : qo (qem (qoff Q6) 29 (Int32.ofNat (qs Q))) = qo Q6 := em_o.trans off_o
      have e_f : qf (qem (qoff Q6) 29 (Int32.ofNat (qs Q))) = qf Q6 := em_f.trans off_f
      have hgo : ∀ o, RR tx m 3 (pA P6 + 1) (sA (qem (qoff Q6) 29 (Int32.ofNat (qs Q))) (512 + qs Q3) (Int32.ofNat (qs Q6 + 1))) o → RR tx m 0 (pA P) Q o := by
        intro o h
        refine hrun _ (.go hA6 (nx := 3) (Q' := sA (qem (qoff Q6) 29 (Int32.ofNat (qs Q))) (512 + qs Q3) (Int32.ofNat (qs Q6 + 1))) ?_ (by decide) (by decide) h)
        rw [ht6]
        exact .en (RE.loop (f := qs Q) (t := qs Q3) (by omega) (by rw [ab6, hmk3]; rfl) (by omega) f6 (by omega) (by omega) (by rw [c512]; exact c28) (fun j j1 j2 => by
          rw [c512]
          have := cexp j j1 j2
          intro h9; rw [h9] at this; rcases this with h | h <;> exact absurd h (by decide)))
      generalize qem (qoff Q6) 29 (Int32.ofNat (qs Q)) = Q8 at *
      have w8 : pW (add (adv P6) 1 (Int32.ofNat (pN P1))) = pW P6 := by rw [pW_add, pW_adv]
      have nA8 : pA (add (adv P6) 1 (Int32.ofNat (pN P1))) = pA P6 + 1 := by rw [pA_add, eA7]
      have nN8 : pN (add (adv P6) 1 (Int32.ofNat (pN P1))) = pN P6 + 1 := by rw [pN_add l6, pN_adv]
      obtain ⟨sgA, FA⟩ := te_fill (p := pN P3) (b := b) (Q' := sA Q8 (512 + qs Q3) (Int32.ofNat (qs Q6 + 1))) sh8 c8 F8 o8 (by omega) ty8 (fun k => wb (by rw [w8] at k; exact k)) qs_sa cq_sA (by rw [aq_sA, s8]) xq_sA
      refine ⟨sA Q8 (512 + qs Q3) (Int32.ofNat (qs Q6 + 1)), ⟨⟨by rw [pR_pt, pR_add, pR_adv]; exact hS.pre.r, by rw [pA_pt, nA8]; omega, by rw [pW_pt, w8, qs_ma, e_m]; exact hS.pre.w, by rw [pS_pt, pS_add, pS_adv, qs_na, e_n]; exact hS.pre.c, by rw [pA_pt, nA8, qs_sa, qs_ha, s8, e_h]; omega, by rw [pA_pt, nA8, qs_ta, e_t]; omega, by rw [pN_pt, pA_pt, nN8, nA8]; omega, sgA.n⟩, ⟨by rw [qs_ha, e_h]; omega, fun j hj => by rw [qs_oa, e_o]; exact (ctx6 j hj).1, fun j hj => by rw [qs_fa, e_f]; exact (ctx6 j hj).2, by rw [qs_da, e_d, d6, d3, Int32.add_sub_cancel]⟩, by rw [qs_ta, e_t, t6]; omega, by rw [pA_pt, nA8]; omega, by rw [pN_pt, pA_pt, nN8, nA8]; omega, by rw [qs_sa, s8]; omega, sgA, ?_, ?_⟩, fun o h => ?_⟩
      · rw [FA, qs_sa]; exact ty8
      · rw [cq_sA, c8' _ (by omega)]; exact (cexp (qs Q) (Nat.le_refl _) (by omega)).nE
      · rw [pA_pt, nA8] at h
        exact hgo _ h
end EQ10
