/-! THE TWO READERS: pieces of code, values -/
def cq (Q : pq) : Nat → Int32 := fun i => qc Q (512 + i)
def aq (Q : pq) : Nat → Int32 := fun i => qa Q (512 + i)
def xq (Q : pq) : Nat → Int32 := fun i => qx Q (512 + i)
def Fq (Q : pq) : Nat → Nat × List Nat := ft (cq Q) (aq Q)
/-- the two readers at one place -/
abbrev Pre (m : Nat) (P : pd_P) (Q : pq) : Prop := (pR P = false) ∧ (pA P ≤ m) ∧ (pW P = qm Q) ∧ (pS P = qn Q) ∧ (qs Q + qh Q ≤ pA P) ∧ (qt Q ≤ pA P) ∧ (pN P ≤ pA P) ∧ (pN P = (Fq Q (qs Q)).1)
theorem Pre.r {m : Nat} {P : pd_P} {Q : pq} (ih : Pre m P Q) : pR P = false := ih.1
theorem Pre.i {m : Nat} {P : pd_P} {Q : pq} (ih : Pre m P Q) : pA P ≤ m := ih.2.1
theorem Pre.w {m : Nat} {P : pd_P} {Q : pq} (ih : Pre m P Q) : pW P = qm Q := ih.2.2.1
theorem Pre.c {m : Nat} {P : pd_P} {Q : pq} (ih : Pre m P Q) : pS P = qn Q := ih.2.2.2.1
theorem Pre.b1 {m : Nat} {P : pd_P} {Q : pq} (ih : Pre m P Q) : qs Q + qh Q ≤ pA P := ih.2.2.2.2.1
theorem Pre.b2 {m : Nat} {P : pd_P} {Q : pq} (ih : Pre m P Q) : qt Q ≤ pA P := ih.2.2.2.2.2.1
theorem Pre.b3 {m : Nat} {P : pd_P} {Q : pq} (ih : Pre m P Q) : pN P ≤ pA P := ih.2.2.2.2.2.2.1
theorem Pre.n {m : Nat} {P : pd_P} {Q : pq} (ih : Pre m P Q) : pN P = (Fq Q (qs Q)).1 := ih.2.2.2.2.2.2.2
/-- a piece of code, from one state to the other -/
abbrev Seg (P : pd_P) (Q : pq) (P' : pd_P) (Q' : pq) : Prop := (qs Q ≤ qs Q') ∧ (∀ j, j < qs Q → cq Q' j = cq Q j ∧ aq Q' j = aq Q j ∧ xq Q' j = xq Q j) ∧ (∀ z, z < pN P → pO P' z = pO P z ∧ pV P' z = pV P z) ∧ (pN P = (Fq Q (qs Q)).1) ∧ (pN P' = (Fq Q' (qs Q')).1) ∧ (pW P' = false → Cg (cq Q') (aq Q') (xq Q') (pO P') (pV P') (qs Q') (qs Q) (qs Q')) ∧ (pW P' = false → pW P = false)
theorem Seg.s {P : pd_P} {Q : pq} {P' : pd_P} {Q' : pq} (ih : Seg P Q P' Q') : qs Q ≤ qs Q' := ih.1
theorem Seg.fr {P : pd_P} {Q : pq} {P' : pd_P} {Q' : pq} (ih : Seg P Q P' Q') : ∀ j, j < qs Q → cq Q' j = cq Q j ∧ aq Q' j = aq Q j ∧ xq Q' j = xq Q j := ih.2.1
theorem Seg.fc {P : pd_P} {Q : pq} {P' : pd_P} {Q' : pq} (ih : Seg P Q P' Q') : ∀ z, z < pN P → pO P' z = pO P z ∧ pV P' z = pV P z := ih.2.2.1
theorem Seg.n0 {P : pd_P} {Q : pq} {P' : pd_P} {Q' : pq} (ih : Seg P Q P' Q') : pN P = (Fq Q (qs Q)).1 := ih.2.2.2.1
theorem Seg.n {P : pd_P} {Q : pq} {P' : pd_P} {Q' : pq} (ih : Seg P Q P' Q') : pN P' = (Fq Q' (qs Q')).1 := ih.2.2.2.2.1
theorem Seg.gd {P : pd_P} {Q : pq} {P' : pd_P} {Q' : pq} (ih : Seg P Q P' Q') : pW P' = false → Cg (cq Q') (aq Q') (xq Q') (pO P') (pV P') (qs Q') (qs Q) (qs Q') := ih.2.2.2.2.2.1
theorem Seg.wm {P : pd_P} {Q : pq} {P' : pd_P} {Q' : pq} (ih : Seg P Q P' Q') : pW P' = false → pW P = false := ih.2.2.2.2.2.2
section SEG
variable {P P' P0 P1 P2 : pd_P} {Q Q' Q0 Q1 Q2 : pq} {m : Nat}
theorem Seg.F (h : Seg P Q P' Q') : ∀ i, i ≤ qs Q → Fq Q' i = Fq Q i := ft_congr (qs Q) (fun j hj => ⟨(h.fr j hj).1, Or.inl (h.fr j hj).2.1⟩)
theorem Seg.le (h : Seg P Q P' Q') : pN P ≤ pN P' := by
  rw [h.n0, h.n, ← h.F _ (Nat.le_refl _)]
  exact ft_le h.s
theorem Seg.refl (h : pN P = (Fq Q (qs Q)).1) : Seg P Q P Q := ⟨Nat.le_refl _, fun _ _ => ⟨rfl, rfl, rfl⟩, fun _ _ => ⟨rfl, rfl⟩, h, h, fun _ => Cg.nil, fun h => h⟩
theorem Seg.trans (h1 : Seg P0 Q0 P1 Q1) (h2 : Seg P1 Q1 P2 Q2) : Seg P0 Q0 P2 Q2 := by
  refine ⟨Nat.le_trans h1.s h2.s, fun j hj => ?_, fun z hz => ?_, h1.n0, h2.n, fun hw => ?_, fun h => h1.wm (h2.wm h)⟩
  · have k1 := h1.fr j hj
    have k2 := h2.fr j (Nat.lt_of_lt_of_le hj h1.s)
    exact ⟨k2.1.trans k1.1, k2.2.1.trans k1.2.1, k2.2.2.trans k1.2.2⟩
  · have k1 := h1.fc z hz
    have k2 := h2.fc z (Nat.lt_of_lt_of_le hz h1.le)
    exact ⟨k2.1.trans k1.1, k2.2.trans k1.2⟩
  · refine Cg.app ((h1.gd (h2.wm hw)).congr (Nat.le_refl _) (fun j hj => (h2.fr j hj).1) (fun j hj => Or.inl (h2.fr j hj).2.1) (fun j _ hj => (h2.fr j hj).2) (fun z _ hz => h2.fc z ?_) h2.s) (h2.gd hw)
    rw [h1.n]
    exact hz
/-- marks, kinds, places change, the code doesn't -/
theorem Seg.same (h : Seg P Q P1 Q1) (hs : qs Q' = qs Q1) (hc : cq Q' = cq Q1) (ha : aq Q' = aq Q1) (hx : xq Q' = xq Q1) (hn : pN P' = pN P1) (ho : pO P' = pO P1) (hv : pV P' = pV P1) (hw : pW P' = false → pW P1 = false) : Seg P Q P' Q' := by
  have hF : Fq Q' = Fq Q1 := by unfold Fq; rw [hc, ha]
  refine ⟨by rw [hs]; exact h.s, fun j hj => ?_, fun z hz => ?_, h.n0, ?_, fun k => ?_, fun k => h.wm (hw k)⟩
  · rw [hc, ha, hx]; exact h.fr j hj
  · rw [ho, hv]; exact h.fc z hz
  · rw [hn, hF, hs]; exact h.n
  · rw [hc, ha, hx, ho, hv, hs]; exact h.gd (hw k)
theorem Seg.same0 (h : Seg P1 Q1 P' Q') (hs : qs Q = qs Q1) (hc : cq Q = cq Q1) (ha : aq Q = aq Q1) (hx : xq Q = xq Q1) (hn : pN P = pN P1) (ho : pO P = pO P1) (hv : pV P = pV P1) (hw : pW P1 = false → pW P = false) : Seg P Q P' Q' := by
  have hF : Fq Q = Fq Q1 := by unfold Fq; rw [hc, ha]
  refine ⟨by rw [hs]; exact h.s, fun j hj => ?_, fun z hz => ?_, ?_, h.n, fun k => ?_, fun k => hw (h.wm k)⟩
  · rw [hc, ha, hx]; exact h.fr j (by rw [← hs]; exact hj)
  · rw [ho, hv]; exact h.fc z (by rw [← hn]; exact hz)
  · rw [hn, hF, hs]; exact h.n0
  · rw [hs]; exact h.gd k
/-- one order more -/
theorem Seg.emit {op a : Int32} (hn : pN P = (Fq Q (qs Q)).1) (hs : qs Q' = qs Q + 1) (hc : cq Q' = pd_up (cq Q) (qs Q) op) (ha : aq Q' = pd_up (aq Q) (qs Q) a) (hx : xq Q' = xq Q) (hN : pN P' = pN P + wd op (Fq Q (qs Q)).2) (hf : ∀ z, z < pN P → pO P' z = pO P z ∧ pV P' z = pV P z)
    (hC : pW P' = false → Cn (cq Q') (Fq Q') (pO P') (pV P') (qs Q + 1) (qs Q) (pN P) op a (xq Q (qs Q)) (Fq Q (qs Q)).2) (hw : pW P' = false → pW P = false) : Seg P Q P' Q' ∧ (Fq Q' (qs Q')).2 = tyS op a (Fq Q (qs Q)).2 := by
  have e1 : ∀ j, j < qs Q → cq Q' j = cq Q j ∧ aq Q' j = aq Q j ∧ xq Q' j = xq Q j := by
    intro j hj
    rw [hc, ha, hx]
    unfold pd_up
    rw [if_neg (by omega), if_neg (by omega)]
    exact ⟨rfl, rfl, rfl⟩
  have hF : ∀ i, i ≤ qs Q → Fq Q' i = Fq Q i := ft_congr (qs Q) (fun j hj => ⟨(e1 j hj).1, Or.inl (e1 j hj).2.1⟩)
  have c1 : cq Q' (qs Q) = op := by rw [hc]; unfold pd_up; rw [if_pos rfl]
  have a1 : aq Q' (qs Q) = a := by rw [ha]; unfold pd_up; rw [if_pos rfl]
  have hF1 : Fq Q' (qs Q + 1) = ((Fq Q (qs Q)).1 + wd op (Fq Q (qs Q)).2, tyS op a (Fq Q (qs Q)).2) := by
    show ((Fq Q' (qs Q)).1 + wd (cq Q' (qs Q)) (Fq Q' (qs Q)).2, tyS (cq Q' (qs Q)) (aq Q' (qs Q)) (Fq Q' (qs Q)).2) = _
    rw [c1, a1, hF _ (Nat.le_refl _)]
  refine ⟨⟨by omega, e1, hf, hn, by rw [hs, hF1, hN, hn], fun k => ?_, hw⟩, by rw [hs, hF1]⟩
  rw [hs]
  refine Cg.one ?_
  show Cn (cq Q') (Fq Q') (pO P') (pV P') (qs Q + 1) (qs Q) (Fq Q' (qs Q)).1 (cq Q' (qs Q)) (aq Q' (qs Q)) (xq Q' (qs Q)) (Fq Q' (qs Q)).2
  rw [c1, a1, hF _ (Nat.le_refl _), hx, ← hn]
  exact hC k
theorem cq_em {o a : Int32} : cq (qem Q o a) = pd_up (cq Q) (qs Q) o := by
  funext i
  show pd_up (qc Q) (512 + qs Q) o (512 + i) = _
  unfold pd_up
  by_cases h : i = qs Q
  · rw [if_pos (by omega), if_pos h]
  · rw [if_neg (by omega), if_neg h]; rfl
theorem aq_em {o a : Int32} : aq (qem Q o a) = pd_up (aq Q) (qs Q) a := by
  funext i
  show pd_up (qa Q) (512 + qs Q) a (512 + i) = _
  unfold pd_up
  by_cases h : i = qs Q
  · rw [if_pos (by omega), if_pos h]
  · rw [if_neg (by omega), if_neg h]; rfl
theorem xq_em {o a : Int32} : xq (qem Q o a) = xq Q := rfl
/-- an order of width 1 of the class -/
theorem Seg.emit1 {op a o v : Int32} (hn : pN P = (Fq Q (qs Q)).1) (hl : pN P < 49) (h1 : wd op (Fq Q (qs Q)).2 = 1) (hs : qs Q' = qs Q + 1) (hc : cq Q' = cq (qem Q op a)) (ha : aq Q' = aq (qem Q op a)) (hx : xq Q' = xq Q)
    (hC : pW P = false → Cn (cq Q') (Fq Q') (pO (add P o v)) (pV (add P o v)) (qs Q + 1) (qs Q) (pN P) op a (xq Q (qs Q)) (Fq Q (qs Q)).2) : Seg P Q (add P o v) Q' ∧ (Fq Q' (qs Q')).2 = tyS op a (Fq Q (qs Q)).2 := by
  refine Seg.emit hn hs (by rw [hc, cq_em]) (by rw [ha, aq_em]) hx (by rw [pN_add hl, h1]) (fun z hz => ?_) (fun h => hC (by rw [pW_add] at h; exact h)) (fun h => by rw [pW_add] at h; exact h)
  rw [pO_add hl, pV_add hl]
  unfold pd_up
  rw [if_neg (by omega), if_neg (by omega)]
  exact ⟨rfl, rfl⟩
theorem at_add {o v : Int32} (hl : pN P < 49) : pO (add P o v) (pN P) = o ∧ pV (add P o v) (pN P) = v := by
  rw [pO_add hl, pV_add hl]
  unfold pd_up
  rw [if_pos rfl, if_pos rfl]
  exact ⟨rfl, rfl⟩
end SEG
/-- marks and depth as they were -/
abbrev Ctx (Q Q' : pq) : Prop := (qh Q' = qh Q) ∧ (∀ j, j < qh Q → qo Q' j = qo Q j) ∧ (∀ j, j < qh Q → qf Q' j = qf Q j) ∧ (qd Q' = qd Q)
theorem Ctx.h {Q Q' : pq} (ih : Ctx Q Q') : qh Q' = qh Q := ih.1
theorem Ctx.o {Q Q' : pq} (ih : Ctx Q Q') : ∀ j, j < qh Q → qo Q' j = qo Q j := ih.2.1
theorem Ctx.f {Q Q' : pq} (ih : Ctx Q Q') : ∀ j, j < qh Q → qf Q' j = qf Q j := ih.2.2.1
theorem Ctx.d {Q Q' : pq} (ih : Ctx Q Q') : qd Q' = qd Q := ih.2.2.2
/-- a value is read -/
abbrev Val (m : Nat) (P : pd_P) (Q : pq) (P' : pd_P) (Q' : pq) (b : Bool) : Prop := (Pre m P' Q') ∧ (Ctx Q Q') ∧ (qg Q' = qg Q) ∧ (qn Q' = qn Q) ∧ (qt Q' = qt Q + 1) ∧ (qr Q' (qt Q) = pd_b b) ∧ (∀ j, j < qt Q → qr Q' j = qr Q j) ∧ (pA P < pA P') ∧ (pN P' + pA P ≤ pN P + pA P') ∧ (qs Q < qs Q') ∧ (∀ j, qs Q ≤ j → j < qs Q' → eop (cq Q' j)) ∧ (Seg P Q P' Q') ∧ ((Fq Q' (qs Q')).2 = tg b :: (Fq Q (qs Q)).2)
theorem Val.pre {m : Nat} {P : pd_P} {Q : pq} {P' : pd_P} {Q' : pq} {b : Bool} (ih : Val m P Q P' Q' b) : Pre m P' Q' := ih.1
theorem Val.ctx {m : Nat} {P : pd_P} {Q : pq} {P' : pd_P} {Q' : pq} {b : Bool} (ih : Val m P Q P' Q' b) : Ctx Q Q' := ih.2.1
theorem Val.g {m : Nat} {P : pd_P} {Q : pq} {P' : pd_P} {Q' : pq} {b : Bool} (ih : Val m P Q P' Q' b) : qg Q' = qg Q := ih.2.2.1
theorem Val.n {m : Nat} {P : pd_P} {Q : pq} {P' : pd_P} {Q' : pq} {b : Bool} (ih : Val m P Q P' Q' b) : qn Q' = qn Q := ih.2.2.2.1
theorem Val.t {m : Nat} {P : pd_P} {Q : pq} {P' : pd_P} {Q' : pq} {b : Bool} (ih : Val m P Q P' Q' b) : qt Q' = qt Q + 1 := ih.2.2.2.2.1
theorem Val.tr {m : Nat} {P : pd_P} {Q : pq} {P' : pd_P} {Q' : pq} {b : Bool} (ih : Val m P Q P' Q' b) : qr Q' (qt Q) = pd_b b := ih.2.2.2.2.2.1
theorem Val.tb {m : Nat} {P : pd_P} {Q : pq} {P' : pd_P} {Q' : pq} {b : Bool} (ih : Val m P Q P' Q' b) : ∀ j, j < qt Q → qr Q' j = qr Q j := ih.2.2.2.2.2.2.1
theorem Val.i {m : Nat} {P : pd_P} {Q : pq} {P' : pd_P} {Q' : pq} {b : Bool} (ih : Val m P Q P' Q' b) : pA P < pA P' := ih.2.2.2.2.2.2.2.1
theorem Val.gr {m : Nat} {P : pd_P} {Q : pq} {P' : pd_P} {Q' : pq} {b : Bool} (ih : Val m P Q P' Q' b) : pN P' + pA P ≤ pN P + pA P' := ih.2.2.2.2.2.2.2.2.1
theorem Val.s {m : Nat} {P : pd_P} {Q : pq} {P' : pd_P} {Q' : pq} {b : Bool} (ih : Val m P Q P' Q' b) : qs Q < qs Q' := ih.2.2.2.2.2.2.2.2.2.1
theorem Val.e {m : Nat} {P : pd_P} {Q : pq} {P' : pd_P} {Q' : pq} {b : Bool} (ih : Val m P Q P' Q' b) : ∀ j, qs Q ≤ j → j < qs Q' → eop (cq Q' j) := ih.2.2.2.2.2.2.2.2.2.2.1
theorem Val.seg {m : Nat} {P : pd_P} {Q : pq} {P' : pd_P} {Q' : pq} {b : Bool} (ih : Val m P Q P' Q' b) : Seg P Q P' Q' := ih.2.2.2.2.2.2.2.2.2.2.2.1
theorem Val.ty {m : Nat} {P : pd_P} {Q : pq} {P' : pd_P} {Q' : pq} {b : Bool} (ih : Val m P Q P' Q' b) : (Fq Q' (qs Q')).2 = tg b :: (Fq Q (qs Q)).2 := ih.2.2.2.2.2.2.2.2.2.2.2.2
section VAL
variable {P P' P0 P1 P2 : pd_P} {Q Q' Q0 Q1 Q2 : pq} {m : Nat} {b : Bool}
theorem Ctx.ab (h : Ctx Q Q') : qab Q' = qab Q := by
  unfold qab
  rw [h.h]
  by_cases k : qh Q = 0
  · rw [if_pos k, if_pos k]
  · rw [if_neg k, if_neg k, h.o _ (by omega)]
theorem ovr_no (h : qab Q ≠ 8) : ovr Q = Q := by
  unfold ovr
  cases hq : qh Q with
  | zero => rfl
  | succ k => unfold qov; rw [if_neg h]
theorem ovr_8 (h : qab Q = 8) : ovr Q = ovr (ov1 Q) := by
  have h1 := qab8 h
  unfold ovr
  obtain ⟨k, hk⟩ : ∃ k, qh Q = k + 1 := ⟨qh Q - 1, by omega⟩
  have e : qh (ov1 Q) = k := by show qh Q - 1 = k; omega
  rw [e, hk]
  show (if qab Q = 8 then qov k (ov1 Q) else Q) = _
  rw [if_pos h]
/-- a value of one order -/
theorem val_leaf {op a o v : Int32} (h : Pre m P Q) (hA : pA P < pA P1) (hm : pA P1 ≤ m) (hm2 : m ≤ 48) (hr : pR P1 = pR P) (hw : pW P1 = pW P) (hS : pS P1 = pS P) (hN : pN P1 = pN P) (hO : pO P1 = pO P) (hV : pV P1 = pV P) (h1 : wd op (Fq Q (qs Q)).2 = 1) (ht : tyS op a (Fq Q (qs Q)).2 = tg b :: (Fq Q (qs Q)).2) (he : eop op)
    (hC : ∀ c F oC vC H i, oC (pN P) = o → vC (pN P) = v → Cn c F oC vC H i (pN P) op a (xq Q (qs Q)) (Fq Q (qs Q)).2) : Val m P Q (add P1 o v) (qop (qem Q op a) b) b := by
  have hb1 := h.b1
  have hb2 := h.b2
  have hb3 := h.b3
  have hl : pN P1 < 49 := by omega
  have hn := h.n
  obtain ⟨sg, ty⟩ := Seg.emit1 (P := P1) (Q := Q) (Q' := qop (qem Q op a) b) (op := op) (a := a) (o := o) (v := v) (by rw [hN]; exact hn) hl h1 rfl rfl rfl rfl (fun _ => by rw [hN]; exact hC _ _ _ _ _ _ (by rw [← hN]; exact (at_add hl).1) (by rw [← hN]; exact (at_add hl).2))
  have sg2 : Seg P Q (add P1 o v) (qop (qem Q op a) b) := sg.same0 rfl rfl rfl rfl hN.symm hO.symm hV.symm (fun k => by rw [← hw]; exact k)
  refine ⟨⟨by rw [pR_add, hr]; exact h.r, by rw [pA_add]; exact hm, by rw [pW_add, hw]; exact h.w, by rw [pS_add, hS]; exact h.c, ?_, ?_, ?_, sg2.n⟩, ⟨rfl, fun _ _ => rfl, fun _ _ => rfl, rfl⟩, rfl, rfl, rfl, ?_, ?_, ?_, by rw [pN_add hl, pA_add]; omega, Nat.lt_succ_self _, ?_, sg2, by rw [ty]; exact ht⟩
  · show qs Q + 1 + qh Q ≤ _
    rw [pA_add]; omega
  · show qt Q + 1 ≤ _
    rw [pA_add]; omega
  · rw [pN_add hl, pA_add]; omega
  · show pd_up (qr Q) (qt Q) (pd_b b) (qt Q) = _
    unfold pd_up; rw [if_pos rfl]
  · intro j hj
    show pd_up (qr Q) (qt Q) (pd_b b) j = _
    unfold pd_up; rw [if_neg (by omega)]
  · rw [pA_add]; exact hA
  · intro j k1 k2
    have e : j = qs Q := by have : j < qs Q + 1 := k2; omega
    subst e
    rw [show cq (qop (qem Q op a) b) = cq (qem Q op a) from rfl, cq_em]
    unfold pd_up; rw [if_pos rfl]; exact he
end VAL
