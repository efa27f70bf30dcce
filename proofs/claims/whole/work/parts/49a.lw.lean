/-! THE REFERENCE's READER leaves the code of the four alone -/
def Lw (Q Q' : pq) : Prop := ∀ j, j < 512 → qc Q' j = qc Q j ∧ qa Q' j = qa Q j ∧ qx Q' j = qx Q j
section LW
variable {Q R R' : pq} {o a v mk c s r : Int32} {k n f : Nat} {b : Bool}
theorem Lw.rf : Lw Q Q := fun _ _ => ⟨rfl, rfl, rfl⟩
theorem Lw.tr (h : Lw Q R) (h2 : Lw R R') : Lw Q R' := fun j hj => ⟨(h2 j hj).1.trans (h j hj).1, (h2 j hj).2.1.trans (h j hj).2.1, (h2 j hj).2.2.trans (h j hj).2.2⟩
theorem Lw.h (h : Lw Q R) : Lw Q (sH R k) := h
theorem Lw.t (h : Lw Q R) : Lw Q (sT R k) := h
theorem Lw.ss (h : Lw Q R) : Lw Q (sS R k) := h
theorem Lw.d (h : Lw Q R) : Lw Q (sD R v) := h
theorem Lw.g (h : Lw Q R) : Lw Q (sG R v) := h
theorem Lw.nn (h : Lw Q R) : Lw Q (sN R v) := h
theorem Lw.m (h : Lw Q R) : Lw Q (sM R b) := h
theorem Lw.oo (h : Lw Q R) : Lw Q (sO R k v) := h
theorem Lw.ff (h : Lw Q R) : Lw Q (sF R k v) := h
theorem Lw.rr (h : Lw Q R) : Lw Q (sR R k v) := h
theorem up_lo {g : Nat → Int32} {j : Nat} (hj : j < 512) : pd_up g (512 + k) v j = g j := by unfold pd_up; rw [if_neg (by omega)]
theorem Lw.cc (h : Lw Q R) : Lw Q (sC R (512 + k) v) := fun j hj => ⟨(up_lo hj).trans (h j hj).1, (h j hj).2⟩
theorem Lw.aa (h : Lw Q R) : Lw Q (sA R (512 + k) v) := fun j hj => ⟨(h j hj).1, (up_lo hj).trans (h j hj).2.1, (h j hj).2.2⟩
theorem Lw.xx (h : Lw Q R) : Lw Q (sX R (512 + k) v) := fun j hj => ⟨(h j hj).1, (h j hj).2.1, (up_lo hj).trans (h j hj).2.2⟩
theorem Lw.em (h : Lw Q R) : Lw Q (qem R o a) := h.cc.aa.ss
theorem Lw.pu (h : Lw Q R) : Lw Q (qpu R mk) := h.oo.ff.h
theorem Lw.op (h : Lw Q R) : Lw Q (qop R b) := h.t.rr
theorem Lw.wh (h : Lw Q R) : Lw Q (qwh R) := by
  unfold qwh
  split
  · exact h.t
  · exact h.t.m
theorem Lw.pd (h : Lw Q R) : Lw Q (qpd R mk).2 := by
  unfold qpd
  split
  · exact h
  · exact h.d.pu
theorem Lw.ov1 (h : Lw Q R) : Lw Q (ov1 R) := h.h.d.em.rr
theorem Lw.qovv : ∀ (f : Nat) (R : pq), Lw Q R → Lw Q (qov f R) := by
  intro f
  induction f with
  | zero => intro R h; exact h
  | succ f ih =>
    intro R h
    unfold qov
    split
    · exact ih _ h.ov1
    · exact h
theorem Lw.ov (h : Lw Q R) : Lw Q (ovr R) := Lw.qovv _ _ h
theorem Lw.red (h : Lw Q R) : Lw Q (red1 R) := by
  unfold red1
  split
  · exact h.h.t.m.em.rr
  · exact h.h.t.em.rr
theorem Lw.qrd : ∀ (f : Nat) (R : pq), Lw Q R → Lw Q (qred r f R) := by
  intro f
  induction f with
  | zero => intro R h; exact h
  | succ f ih =>
    intro R h
    unfold qred
    split
    · exact h
    · exact ih _ h.red
theorem Lw.rdc (h : Lw Q R) : Lw Q (rdc r R) := Lw.qrd _ _ h
theorem Lw.of (h : Lw Q R) : Lw Q (qof R) := h.h.d
theorem Lw.cl (h : Lw Q R) : Lw Q (qcl R mk) := by
  unfold qcl
  split
  · exact h.wh.em.h
  · exact h.t.em.h
theorem Lw.st : Lw Q (qst c Q).2 := by
  unfold qst
  split
  · exact Lw.rf.nn.g
  · split
    · exact Lw.rf.nn.g
    · split
      · exact Lw.rf.nn
      · split
        · exact Lw.rf.nn.pu
        · split
          · exact Lw.rf.nn.pu
          · split
            · exact Lw.rf.nn.pu
            · split
              · exact Lw.rf.nn
              · split
                · exact Lw.rf.nn.g
                · split
                  · exact Lw.rf.nn.g
                  · split
                    · exact Lw.rf.nn.g
                    · exact Lw.rf.nn
theorem Lw.un : Lw Q (qun c Q).2 := by
  unfold qun
  split
  · exact Lw.rf.em.op.ov
  · split
    · exact Lw.rf.em.op.ov
    · split
      · exact .rf
      · split
        · exact Lw.rf.pd
        · split
          · exact Lw.rf.pd
          · exact .rf
theorem Lw.si : Lw Q (qsi s c Q).2 := by
  unfold qsi
  split
  · split
    · split
      · exact .rf
      · exact Lw.rf.d.pu.em
    · exact .rf
  · split
    · split
      · exact Lw.rf.pd
      · exact .rf
    · split
      · split
        · exact Lw.rf.pd
        · exact .rf
      · split
        · split
          · exact Lw.rf.pu
          · exact .rf
        · generalize (if s = 8 then (49 : Int32) else 51) = z
          generalize (if qg Q = 87 then (23 : Int32) else if qg Q = 83 then 24 else 25) = w
          by_cases k1 : c < 48
          · rw [if_pos k1]; exact .rf
          · rw [if_neg k1]
            by_cases k2 : c ≤ z
            · rw [if_pos k2]; exact Lw.rf.em
            · rw [if_neg k2]; exact .rf
theorem Lw.bi : Lw Q (qbi c Q).2 := by
  unfold qbi
  split
  · split
    · exact Lw.rf.rdc
    · exact Lw.rf.rdc.pu
  · exact Lw.rf.rdc.pu
end LW
