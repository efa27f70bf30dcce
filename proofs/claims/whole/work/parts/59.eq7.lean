/-! THE TWO READERS: simple statements -/
section EQ7
variable {I0 : pd_I} {tx : Nat → Int32} {P P' P0 P1 P2 P3 P4 P5 : pd_P} {Q Q' Q0 Q1 Q2 Q2x Q3 Q4 X : pq} {m i dp : Nat} {b b1 b2 w : Bool} {r r' c s mk nx : Int32} {e u : pd_P → Bool × pd_P}
theorem eop.nE {x : Int32} (h : eop x) : nE x := by
  constructor
  · intro k; subst k; rcases h with h | h <;> exact absurd h (by decide)
  · intro k; subst k; rcases h with h | h <;> exact absurd h (by decide)
/-- marks as they were, one more on top -/
abbrev Ct1 (Q Q1 : pq) : Prop := (qh Q1 = qh Q + 1) ∧ (∀ j, j < qh Q → qo Q1 j = qo Q j) ∧ (∀ j, j < qh Q → qf Q1 j = qf Q j) ∧ (qd Q1 = qd Q) ∧ (qt Q1 = qt Q)
theorem Ct1.h {Q Q1 : pq} (ih : Ct1 Q Q1) : qh Q1 = qh Q + 1 := ih.1
theorem Ct1.o {Q Q1 : pq} (ih : Ct1 Q Q1) : ∀ j, j < qh Q → qo Q1 j = qo Q j := ih.2.1
theorem Ct1.f {Q Q1 : pq} (ih : Ct1 Q Q1) : ∀ j, j < qh Q → qf Q1 j = qf Q j := ih.2.2.1
theorem Ct1.d {Q Q1 : pq} (ih : Ct1 Q Q1) : qd Q1 = qd Q := ih.2.2.2.1
theorem Ct1.t {Q Q1 : pq} (ih : Ct1 Q Q1) : qt Q1 = qt Q := ih.2.2.2.2
theorem Ct1.pu {mk g n : Int32} : Ct1 Q (qpu (sG (sN Q n) g) mk) := by
  refine ⟨rfl, fun j hj => ?_, fun j hj => ?_, rfl, rfl⟩
  · show pd_up (qo Q) (qh Q) mk j = _
    unfold pd_up; rw [if_neg (by omega)]
  · show pd_up (qf Q) (qh Q) (Int32.ofNat (qs Q)) j = _
    unfold pd_up; rw [if_neg (by omega)]
theorem Ct1.pn {mk n : Int32} : Ct1 Q (qpu (sN Q n) mk) := by
  refine ⟨rfl, fun j hj => ?_, fun j hj => ?_, rfl, rfl⟩
  · show pd_up (qo Q) (qh Q) mk j = _
    unfold pd_up; rw [if_neg (by omega)]
  · show pd_up (qf Q) (qh Q) (Int32.ofNat (qs Q)) j = _
    unfold pd_up; rw [if_neg (by omega)]
/-- the order that ends a setting or a writing -/
theorem sta_fin {op a o v : Int32} {Y : pq} (hp : Pre m P Q) (hm : m ≤ 48) (sg0 : Seg P Q P1 Q1) (g0 : pN P1 + pA P + 1 ≤ pN P + pA P1) (cx : Ct1 Q Q1) (hv : Val m P1 Q1 P3 Q3 b) (hfst : nE (cq Q3 (qs Q)))
    (ys : qs Y = qs Q3 + 1) (yc : cq Y = cq (qem Q3 op a)) (ya : aq Y = aq (qem Q3 op a)) (yx : xq Y = xq Q3) (yh : qh Y = qh Q3 - 1) (yo : qo Y = qo Q3) (yf : qf Y = qf Q3) (yd : qd Y = qd Q3) (yn : qn Y = qn Q3) (yt : qt Y = qt Q3 - 1) (ym : qm Y = (qm Q3 || w))
    (hwd : ∀ t, wd op t = 1) (hty : ∀ t, tyS op a t = []) (hC : w = false → ∀ c F oC vC H i p x, oC p = o → vC p = v → Cn c F oC vC H i p op a x (tg b :: (Fq Q1 (qs Q1)).2)) : Sta m P Q (add (ni P3 w) o v) Y := by
  have z1 := cx.h
  have z2 := cx.t
  have z3 := hv.t
  have z4 := hv.ctx.h
  have z5 := hv.gr
  have z6 := hv.pre.b1
  have z7 := hv.pre.b2
  have z8 := hv.pre.b3
  have z9 := hv.pre.i
  have z10 := hp.b3
  have z11 := hv.i
  have z12 := hv.s
  have z13 := sg0.s
  have z14 := sg0.le
  have l1 : pN (ni P3 w) < 49 := by rw [pN_ni]; omega
  have nN : pN (add (ni P3 w) o v) = pN P3 + 1 := by rw [pN_add l1, pN_ni]
  have nA : pA (add (ni P3 w) o v) = pA P3 := by rw [pA_add, pA_ni]
  have nW : pW (add (ni P3 w) o v) = (pW P3 || w) := by rw [pW_add, pW_ni]
  have sg3 : Seg P Q (ni P3 w) Q3 := (sg0.trans hv.seg).same rfl rfl rfl rfl pN_ni pO_ni pV_ni (fun k => by rw [pW_ni] at k; cases hq : pW P3; rfl; rw [hq] at k; cases k)
  obtain ⟨sg, ty⟩ := Seg.emit1 (P := ni P3 w) (Q := Q3) (Q' := Y) (op := op) (a := a) (o := o) (v := v) sg3.n l1 (hwd _) ys yc ya yx (fun k => by
    have kw : w = false := by
      rw [pW_ni] at k
      cases w
      · rfl
      · rw [Bool.or_true] at k; cases k
    rw [hv.ty]
    exact hC kw _ _ _ _ _ _ _ _ (at_add l1).1 (at_add l1).2)
  have sgA := sg3.trans sg
  refine ⟨⟨by rw [pR_add, pR_ni]; exact hv.pre.r, by rw [nA]; omega, ?_, ?_, ?_, ?_, by rw [nN, nA]; omega, sgA.n⟩, ⟨?_, ?_, ?_, ?_⟩, ?_, by rw [nA]; omega, by rw [nN, nA]; omega, ?_, sgA, by rw [ty]; exact hty _, ?_⟩
  · rw [nW, hv.pre.w]; exact ym.symm
  · rw [pS_add, pS_ni, hv.pre.c]; exact yn.symm
  · rw [ys, yh, nA]; omega
  · rw [yt, nA]; omega
  · rw [yh]; omega
  · intro j hj
    rw [yo, hv.ctx.o j (by omega)]
    exact cx.o j hj
  · intro j hj
    rw [yf, hv.ctx.f j (by omega)]
    exact cx.f j hj
  · rw [yd, hv.ctx.d]; exact cx.d
  · rw [yt]; omega
  · rw [ys]; omega
  · rw [(sg.fr (qs Q) (by omega)).1]
    exact hfst
/-- its order -/
def qco (Q : pq) (mk : Int32) : Int32 := if mk = 4 then 22 else if qg Q = 7 then 21 else 20
def qci (Q : pq) (mk : Int32) : pq := if mk = 1 ∧ (qg Q < 4 ∨ qg Q = 7) then qwh Q else sT Q (qt Q - 1)
theorem qcl_e : qcl Q mk = sH (qem (qci Q mk) (qco Q mk) (qg Q)) (qh Q - 1) := rfl
theorem qci_h : qh (qci Q mk) = qh Q := by unfold qci; split; exact qwh_h; exact qs_ht
theorem qci_s : qs (qci Q mk) = qs Q := by unfold qci; split; exact qwh_s; exact qs_st
theorem qci_o : qo (qci Q mk) = qo Q := by unfold qci; split; exact qwh_o; exact qs_ot
theorem qci_f : qf (qci Q mk) = qf Q := by unfold qci; split; exact qwh_f; exact qs_ft
theorem qci_d : qd (qci Q mk) = qd Q := by unfold qci; split; exact qwh_d; exact qs_dt
theorem qci_n : qn (qci Q mk) = qn Q := by unfold qci; split; exact qwh_n; exact qs_nt
theorem qci_t : qt (qci Q mk) = qt Q - 1 := by unfold qci; split; exact qwh_t; exact qs_tt
theorem cq_sT {v : Nat} : cq (sT Q v) = cq Q := rfl
theorem cq_sH {v : Nat} : cq (sH Q v) = cq Q := rfl
theorem qci_c : cq (qci Q mk) = cq Q := by unfold qci; split; exact qwh_c; exact cq_sT
theorem aq_sT {v : Nat} : aq (sT Q v) = aq Q := rfl
theorem aq_sH {v : Nat} : aq (sH Q v) = aq Q := rfl
theorem qci_a : aq (qci Q mk) = aq Q := by unfold qci; split; exact qwh_a; exact aq_sT
theorem xq_sT {v : Nat} : xq (sT Q v) = xq Q := rfl
theorem xq_sH {v : Nat} : xq (sH Q v) = xq Q := rfl
theorem qci_x : xq (qci Q mk) = xq Q := by unfold qci; split; exact qwh_x; exact xq_sT
theorem em_h {o a : Int32} : qh (qem Q o a) = qh Q := rfl
theorem em_s {o a : Int32} : qs (qem Q o a) = qs Q + 1 := rfl
theorem em_o {o a : Int32} : qo (qem Q o a) = qo Q := rfl
theorem em_d {o a : Int32} : qd (qem Q o a) = qd Q := rfl
theorem em_n {o a : Int32} : qn (qem Q o a) = qn Q := rfl
theorem em_t {o a : Int32} : qt (qem Q o a) = qt Q := rfl
theorem em_f {o a : Int32} : qf (qem Q o a) = qf Q := rfl
theorem em_m {o a : Int32} : qm (qem Q o a) = qm Q := rfl
theorem qcl_h : qh (qcl Q mk) = qh Q - 1 := by rw [qcl_e, qs_hh]
theorem qcl_o : qo (qcl Q mk) = qo Q := by rw [qcl_e, qs_oh, em_o, qci_o]
theorem qcl_d : qd (qcl Q mk) = qd Q := by rw [qcl_e, qs_dh, em_d, qci_d]
theorem qcl_n : qn (qcl Q mk) = qn Q := by rw [qcl_e, qs_nh, em_n, qci_n]
theorem qcl_t : qt (qcl Q mk) = qt Q - 1 := by rw [qcl_e, qs_th, em_t, qci_t]
theorem qcl_f : qf (qcl Q mk) = qf Q := by rw [qcl_e, qs_fh, em_f, qci_f]
theorem qcl_s : qs (qcl Q mk) = qs Q + 1 := by rw [qcl_e, qs_sh, em_s, qci_s]
theorem qcl_x : xq (qcl Q mk) = xq Q := by rw [qcl_e, xq_sH, xq_em, qci_x]
theorem em_c {X : pq} {o a : Int32} (h1 : cq X = cq Q) (h2 : qs X = qs Q) : cq (qem X o a) = cq (qem Q o a) := by rw [cq_em, cq_em, h1, h2]
theorem em_a {X : pq} {o a : Int32} (h1 : aq X = aq Q) (h2 : qs X = qs Q) : aq (qem X o a) = aq (qem Q o a) := by rw [aq_em, aq_em, h1, h2]
theorem qco4 : qco Q 4 = 22 := by unfold qco; rw [if_pos rfl]
theorem qco7 (h : qg Q = 7) : qco Q 1 = 21 := by unfold qco; rw [if_neg (by decide), if_pos h]
theorem qco0 (h : qg Q ≠ 7) : qco Q 1 = 20 := by unfold qco; rw [if_neg (by decide), if_neg h]
theorem qcl_c : cq (qcl Q mk) = cq (qem Q (qco Q mk) (qg Q)) := by rw [qcl_e, cq_sH]; exact em_c qci_c qci_s
theorem qcl_a : aq (qcl Q mk) = aq (qem Q (qco Q mk) (qg Q)) := by rw [qcl_e, aq_sH]; exact em_a qci_a qci_s
theorem qcl_w (h : ¬ (mk = 1 ∧ (qg Q < 4 ∨ qg Q = 7))) : qm (qcl Q mk) = (qm Q || false) := by
  rw [qcl_e, qs_mh, em_m, Bool.or_false]
  unfold qci
  rw [if_neg h, qs_mt]
theorem qcl_m (h1 : mk = 1) (h2 : qg Q < 4 ∨ qg Q = 7) (h : qr Q (qt Q - 1) = pd_b b) : qm (qcl Q mk) = (qm Q || b) := by
  rw [qcl_e, qs_mh, em_m]
  unfold qci
  rw [if_pos ⟨h1, h2⟩, qwh_m h]
theorem tyS_fin {op a : Int32} {t : List Nat} (h : op = 20 ∨ op = 21 ∨ op = 22 ∨ op = 23 ∨ op = 24 ∨ op = 25 ∨ op = 29 ∨ op = 30) : tyS op a t = [] ∧ wd op t = 1 := by
  rcases h with rfl | rfl | rfl | rfl | rfl | rfl | rfl | rfl <;> exact ⟨rfl, rfl⟩
theorem pA_sts : pA (sts P) = pA P := rfl
theorem pre_sts (hp : Pre m P Q) : pR (sts P) = false ∧ pW (sts P) = qm Q ∧ pS (sts P) = qn Q + 1 ∧ pN (sts P) = pN P ∧ pO (sts P) = pO P ∧ pV (sts P) = pV P := ⟨hp.r, hp.w, by rw [← hp.c]; rfl, rfl, rfl, rfl⟩
/-- waiting, signalling, calling -/
theorem sta_one {op a o v : Int32} (hp : Pre m P Q) (hA : pA P + 1 < m) (hm : m ≤ 48) (hty : (Fq Q (qs Q)).2 = []) (hop : op = 23 ∨ op = 24 ∨ op = 25) {g n : Int32} (hn : n = qn Q + 1) (hC : ∀ c F oC vC H i p x, oC p = o → vC p = v → Cn c F oC vC H i p op a x []) : Sta m P Q (add (adv (adv (sts P))) o v) (qem (sG (sN Q n) g) op a) := by
  have x1 := hp.b1
  have x2 := hp.b2
  have x3 := hp.b3
  have eA : pA (adv (adv (sts P))) = pA P + 2 := by rw [pA_adv (by rw [pA_adv (by rw [pA_sts]; omega), pA_sts]; omega), pA_adv (by rw [pA_sts]; omega), pA_sts]
  have eN : pN (adv (adv (sts P))) = pN P := by rw [pN_adv, pN_adv]; rfl
  have l1 : pN (adv (adv (sts P))) < 49 := by omega
  obtain ⟨sg, ty⟩ := Seg.emit1 (P := adv (adv (sts P))) (Q := Q) (Q' := qem (sG (sN Q n) g) op a) (op := op) (a := a) (o := o) (v := v) (by rw [eN]; exact hp.n) l1 (tyS_fin (a := a) (by rcases hop with h | h | h <;> simp [h])).2 rfl rfl rfl rfl (fun k => by
    rw [hty]
    exact hC _ _ _ _ _ _ _ _ (at_add l1).1 (at_add l1).2)
  have sgA : Seg P Q (add (adv (adv (sts P))) o v) (qem (sG (sN Q n) g) op a) := sg.same0 rfl rfl rfl rfl eN.symm (by rw [pO_adv, pO_adv]; rfl) (by rw [pV_adv, pV_adv]; rfl) (fun k => by rw [pW_adv, pW_adv] at k; exact k)
  refine ⟨⟨by rw [pR_add, pR_adv, pR_adv]; exact hp.r, by rw [pA_add, eA]; omega, by rw [pW_add, pW_adv, pW_adv]; exact hp.w, ?_, ?_, ?_, by rw [pN_add l1, pA_add, eN, eA]; omega, sgA.n⟩, ⟨rfl, fun _ _ => rfl, fun _ _ => rfl, rfl⟩, rfl, by rw [pA_add, eA]; omega, by rw [pN_add l1, pA_add, eN, eA]; omega, Nat.lt_succ_self _, sgA, ?_, ?_⟩
  · rw [pS_add, pS_adv, pS_adv]
    show pS P + 1 = n
    rw [hn, hp.c]
  · show qs Q + 1 + qh Q ≤ _
    rw [pA_add, eA]; omega
  · show qt Q ≤ _
    rw [pA_add, eA]; omega
  · rw [ty]
    exact (tyS_fin (by rcases hop with h | h | h <;> simp [h])).1
  · rw [show cq (qem (sG (sN Q n) g) op a) = cq (qem Q op a) from rfl, cq_em]
    unfold pd_up
    rw [if_pos rfl]
    rcases hop with rfl | rfl | rfl <;> exact ⟨by decide, by decide⟩
theorem qst_v (h1 : iW c = false) (h2 : iX c = false) : qst c Q = if c = 118 then (5, sN Q (qn Q + 1)) else if c = 33 then (1, qpu (sN Q (qn Q + 1)) 4) else if c = 63 then (1, qpu (sN Q (qn Q + 1)) 2)
  else if c = 64 then (1, qpu (sN Q (qn Q + 1)) 3) else if c = 38 then (4, sN Q (qn Q + 1)) else if c = 87 then (8, sG (sN Q (qn Q + 1)) c)
  else if c = 83 then (8, sG (sN Q (qn Q + 1)) c) else if c = 80 then (9, sG (sN Q (qn Q + 1)) c) else (-1, sN Q (qn Q + 1)) := by
  unfold qst
  rw [h1, h2, if_neg (by decide), if_neg (by decide)]
/-- the digit behind W, S, P -/
theorem one_c {hi o op : Int32} {k0 : Nat} (H : Tx I0 m tx) (hp : Pre m P Q) (hty : (Fq Q (qs Q)).2 = []) (hc : pk I0 m P = c) (c0 : c ≠ 0) (hcc : (c = 87 ∧ s = 8 ∧ hi = 49 ∧ o = 21 ∧ op = 23 ∧ k0 = 2) ∨ (c = 83 ∧ s = 8 ∧ hi = 49 ∧ o = 22 ∧ op = 24 ∧ k0 = 2) ∨ (c = 80 ∧ s = 9 ∧ hi = 51 ∧ o = 23 ∧ op = 25 ∧ k0 = 4)) : SC tx m P Q (add (dg I0 m (adv (sts P)) hi).2 o (dg I0 m (adv (sts P)) hi).1) := by
  have hm := H.m
  obtain ⟨hA, ht⟩ := pk_at H hp.r hc c0
  have x1 := hp.b1
  have eA : pA (adv (sts P)) = pA P + 1 := by rw [pA_adv (by rw [pA_sts]; omega), pA_sts]
  have eR : pR (adv (sts P)) = false := by rw [pR_adv]; exact hp.r
  have es : qst c Q = (s, sG (sN Q (qn Q + 1)) c) := by
    rcases hcc with ⟨rfl, rfl, _⟩ | ⟨rfl, rfl, _⟩ | ⟨rfl, rfl, _⟩ <;> rfl
  have hsO : sOK s := by
    rcases hcc with ⟨_, rfl, _⟩ | ⟨_, rfl, _⟩ | ⟨_, rfl, _⟩
    · exact Or.inr (Or.inr (Or.inr (Or.inr (Or.inl rfl))))
    · exact Or.inr (Or.inr (Or.inr (Or.inr (Or.inl rfl))))
    · exact Or.inr (Or.inr (Or.inr (Or.inr (Or.inr rfl))))
  have hgo := rr_st (Q := Q) hA ht H (by omega) es (by rcases hcc with ⟨_, rfl, _⟩ | ⟨_, rfl, _⟩ | ⟨_, rfl, _⟩ <;> decide) (by rcases hcc with ⟨_, rfl, _⟩ | ⟨_, rfl, _⟩ | ⟨_, rfl, _⟩ <;> decide)
  have hb : qs (sG (sN Q (qn Q + 1)) c) + qh (sG (sN Q (qn Q + 1)) c) ≤ 62 := by show qs Q + qh Q ≤ 62; omega
  have eq : ∀ d, qsi s d (sG (sN Q (qn Q + 1)) c) = if d < 48 then (-1, sG (sN Q (qn Q + 1)) c) else if d ≤ hi then (3, qem (sG (sN Q (qn Q + 1)) c) op (d - 48)) else (-1, sG (sN Q (qn Q + 1)) c) := by
    intro d
    unfold qsi
    rcases hcc with ⟨rfl, rfl, rfl, _, rfl, _⟩ | ⟨rfl, rfl, rfl, _, rfl, _⟩ | ⟨rfl, rfl, rfl, _, rfl, _⟩ <;> rfl
  have hno : ∀ P', P' = rfs (adv (sts P)) → (pA (adv (sts P)) < m → (qsi s (tx (pA (adv (sts P)))) (sG (sN Q (qn Q + 1)) c)).1 = -1) → SC tx m P Q (add P' o 0) := by
    intro P' e h
    left
    rw [e]
    refine ⟨by rw [pR_add]; rfl, by rw [pA_add, pA_rfs, eA]; omega, ?_⟩
    rw [pA_add, pA_rfs]
    have := rr_si_no (Q := sG (sN Q (qn Q + 1)) c) H hsO (i := pA (adv (sts P))) (by omega) hb h
    rw [eA] at this ⊢
    exact hgo _ this
  have etx : pA (adv (sts P)) < m → pk I0 m (adv (sts P)) = tx (pA (adv (sts P))) := fun hi => by
    rw [pk_tx H eR]; unfold chA; rw [if_pos hi]
  by_cases k1 : pk I0 m (adv (sts P)) < 48
  · have ed : dg I0 m (adv (sts P)) hi = (0, rfs (adv (sts P))) := by unfold dg; rw [if_pos k1]
    rw [ed]
    exact hno _ rfl (fun hi => by rw [eq, ← etx hi, if_pos k1])
  · by_cases k2 : hi < pk I0 m (adv (sts P))
    · have ed : dg I0 m (adv (sts P)) hi = (0, rfs (adv (sts P))) := by unfold dg; rw [if_neg k1, if_pos k2]
      rw [ed]
      exact hno _ rfl (fun hi => by rw [eq, ← etx hi, if_neg k1, if_neg (Int32.not_le.mpr k2)])
    · have ed : dg I0 m (adv (sts P)) hi = (pk I0 m (adv (sts P)) - 48, adv (adv (sts P))) := by unfold dg; rw [if_neg k1, if_neg k2]
      rw [ed]
      have p0 : pk I0 m (adv (sts P)) ≠ 0 := by intro h; rw [h] at k1; exact k1 (by decide)
      obtain ⟨hA2, ht2⟩ := pk_at H eR rfl p0
      have hk : ∃ k, k < k0 ∧ pk I0 m (adv (sts P)) - 48 = Int32.ofNat k := by
        obtain ⟨y, y1, y2⟩ := pk_nat (P := adv (sts P)) H
        rw [y2] at k1 k2 ⊢
        have h1 : 48 ≤ y := by
          rw [show (48 : Int32) = Int32.ofNat 48 from rfl, pd_ltl (by omega) (by omega)] at k1; omega
        have h2 : y < 48 + k0 := by
          rcases hcc with ⟨_, _, rfl, _, _, rfl⟩ | ⟨_, _, rfl, _, _, rfl⟩ | ⟨_, _, rfl, _, _, rfl⟩
          · rw [show (49 : Int32) = Int32.ofNat 49 from rfl, pd_ltl (by omega) (by omega)] at k2; omega
          · rw [show (49 : Int32) = Int32.ofNat 49 from rfl, pd_ltl (by omega) (by omega)] at k2; omega
          · rw [show (51 : Int32) = Int32.ofNat 51 from rfl, pd_ltl (by omega) (by omega)] at k2; omega
        refine ⟨y - 48, by omega, ?_⟩
        have e9 : Int32.ofNat y = Int32.ofNat (y - 48) + 48 := by rw [show (48 : Int32) = Int32.ofNat 48 from rfl, pd_addn]; congr 1; omega
        rw [e9, Int32.add_sub_cancel]
      obtain ⟨k, k3, k4⟩ := hk
      rw [eA] at hA2
      right
      refine ⟨qem (sG (sN Q (qn Q + 1)) c) op (pk I0 m (adv (sts P)) - 48), ?_, fun ou h => ?_⟩
      · refine sta_one hp hA2 hm hty (by rcases hcc with ⟨_, _, _, _, rfl, _⟩ | ⟨_, _, _, _, rfl, _⟩ | ⟨_, _, _, _, rfl, _⟩ <;> simp) rfl (fun c F oC vC H i p x h1 h2 => ?_)
        rw [k4] at h2 ⊢
        rcases hcc with ⟨_, _, _, rfl, rfl, rfl⟩ | ⟨_, _, _, rfl, rfl, rfl⟩ | ⟨_, _, _, rfl, rfl, rfl⟩
        · exact .wa k3 h1 h2
        · exact .sg k3 h1 h2
        · exact .ca k3 h1 h2
      · have h' : RR tx m 3 (pA (add (adv (adv (sts P))) o (pk I0 m (adv (sts P)) - 48))) (qem (sG (sN Q (qn Q + 1)) c) op (pk I0 m (adv (sts P)) - 48)) ou := h
        rw [pA_add, pA_adv (by omega), eA] at h'
        rw [eA] at ht2
        refine hgo _ (rr_si (Q := sG (sN Q (qn Q + 1)) c) H hsO hA2 hb ?_ (show (0 : Int32) ≤ 3 by decide) (show (3 : Int32) ≠ 10 by decide) _ h')
        rw [ht2, eq, if_neg k1, if_pos (Int32.not_lt.mp k2)]
/-- writing -/
theorem write_c (H : Tx I0 m tx) (he : ∀ P Q, Pre m P Q → qd Q = Int32.ofNat dp → rk (qab Q) < 1 → qab Q ≠ 8 → EC I0 tx m P Q (e P)) (hp : Pre m P Q) (hd : qd Q = Int32.ofNat dp) (hty : (Fq Q (qs Q)).2 = []) (hc : pk I0 m P = 33) : SC tx m P Q (add (e (adv (sts P))).2 20 0) := by
  have hm := H.m
  obtain ⟨hA, ht⟩ := pk_at H hp.r hc (by decide)
  have x1 := hp.b1
  have x2 := hp.b2
  have x3 := hp.b3
  have eA : pA (adv (sts P)) = pA P + 1 := by rw [pA_adv (by rw [pA_sts]; omega), pA_sts]
  have eN : pN (adv (sts P)) = pN P := by rw [pN_adv]; rfl
  have hgo := rr_st (Q := Q) hA ht H (by omega) (show qst 33 Q = (1, qpu (sN Q (qn Q + 1)) 4) from rfl) (by decide) (by decide)
  have pre : Pre m (adv (sts P)) (qpu (sN Q (qn Q + 1)) 4) := ⟨by rw [pR_adv]; exact hp.r, by omega, by rw [pW_adv]; exact hp.w, by rw [pS_adv]; show pS P + 1 = qn Q + 1; rw [hp.c], by rw [eA]; show qs Q + (qh Q + 1) ≤ _; omega, by rw [eA]; show qt Q ≤ _; omega, by rw [eA, eN]; omega, by rw [eN]; exact hp.n⟩
  obtain ⟨hE, hEn⟩ := he _ _ pre hd (by rw [qab_pu]; decide) (by rw [qab_pu]; decide)
  rw [eA] at hEn
  cases hr : pR (e (adv (sts P))).2
  · obtain ⟨Q2x, Q3, hv, hR, hh, hrun⟩ := hE.val hr
    rw [eA] at hrun
    right
    have y0 := hv.pre.i
    have y1 := hv.pre.b1
    have y2 := hv.pre.b2
    have t3 : qt Q3 = qt Q + 1 := hv.t
    have h3 : qh Q3 = qh Q + 1 := hv.ctx.h
    have sg0 : Seg P Q (adv (sts P)) (qpu (sN Q (qn Q + 1)) 4) := (Seg.refl hp.n).same rfl rfl rfl rfl eN (by rw [pO_adv]; rfl) (by rw [pV_adv]; rfl) (fun k => by rw [pW_adv] at k; exact k)
    have cx : Ct1 Q (qpu (sN Q (qn Q + 1)) 4) := Ct1.pn
    have rt : qr Q3 (qt Q3 - 1) = pd_b (e (adv (sts P))).1 := by rw [t3, Nat.add_sub_cancel]; exact hv.tr
    have hS := sta_fin (Y := qcl Q3 4) (w := false) (op := 22) (a := qg Q3) (o := 20) (v := 0) hp hm sg0 (by rw [eA, eN]; omega) cx hv (hv.e (qs Q) (Nat.le_refl _) hv.s).nE qcl_s (by rw [qcl_c, qco4]) (by rw [qcl_a, qco4]) qcl_x qcl_h qcl_o qcl_f qcl_d qcl_n qcl_t (qcl_w (by rintro ⟨h, _⟩; exact absurd h (by decide))) (fun t => (tyS_fin (a := 0) (by simp)).2) (fun t => (tyS_fin (by simp)).1) (fun _ c F oC vC H i p x h1 h2 => by
      rw [show (Fq (qpu (sN Q (qn Q + 1)) 4) (qs (qpu (sN Q (qn Q + 1)) 4))).2 = [] from hty]
      exact .wr (by cases (e (adv (sts P))).1 <;> decide) h1)
    rw [ni_f] at hS
    refine ⟨_, hS, fun o h => ?_⟩
    rw [pA_add] at h
    exact rr_fin hR (by rw [hv.ctx.ab, qab_pu]) (Or.inr rfl) ⟨by omega, by omega, by omega, by omega⟩ (fun o h => hgo _ (hrun _ h)) (fun _ hk => hgo _ (hEn hr (by rw [pk_tx H hr]; exact hk))) h rfl
  · left
    rcases hE with ⟨_, k2, k3⟩ | ⟨_, _, hv, _⟩
    · refine ⟨by rw [pR_add]; exact hr, by rw [pA_add]; exact k2, ?_⟩
      rw [pA_add]
      rw [eA] at k3
      exact hgo _ k3
    · have := hv.pre.r
      rw [hr] at this; cases this
end EQ7
