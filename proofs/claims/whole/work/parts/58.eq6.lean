/-! THE TWO READERS: code with one order that isn't whole yet -/
abbrev SegH (h : Nat) (P : pd_P) (Q : pq) (P' : pd_P) (Q' : pq) : Prop := (qs Q ≤ h ∧ h < qs Q') ∧ (cq Q' h = 26 ∨ cq Q' h = 28) ∧ (∀ j, j < qs Q → cq Q' j = cq Q j ∧ aq Q' j = aq Q j ∧ xq Q' j = xq Q j) ∧ (∀ z, z < pN P → pO P' z = pO P z ∧ pV P' z = pV P z) ∧ (pN P = (Fq Q (qs Q)).1) ∧ (pN P' = (Fq Q' (qs Q')).1) ∧ (pW P' = false → ∀ i, qs Q ≤ i → i < qs Q' → i ≠ h → Cn (cq Q') (Fq Q') (pO P') (pV P') (qs Q') i (Fq Q' i).1 (cq Q' i) (aq Q' i) (xq Q' i) (Fq Q' i).2) ∧ (pW P' = false → pW P = false)
theorem SegH.s {h : Nat} {P : pd_P} {Q : pq} {P' : pd_P} {Q' : pq} (ih : SegH h P Q P' Q') : qs Q ≤ h ∧ h < qs Q' := ih.1
theorem SegH.op {h : Nat} {P : pd_P} {Q : pq} {P' : pd_P} {Q' : pq} (ih : SegH h P Q P' Q') : cq Q' h = 26 ∨ cq Q' h = 28 := ih.2.1
theorem SegH.fr {h : Nat} {P : pd_P} {Q : pq} {P' : pd_P} {Q' : pq} (ih : SegH h P Q P' Q') : ∀ j, j < qs Q → cq Q' j = cq Q j ∧ aq Q' j = aq Q j ∧ xq Q' j = xq Q j := ih.2.2.1
theorem SegH.fc {h : Nat} {P : pd_P} {Q : pq} {P' : pd_P} {Q' : pq} (ih : SegH h P Q P' Q') : ∀ z, z < pN P → pO P' z = pO P z ∧ pV P' z = pV P z := ih.2.2.2.1
theorem SegH.n0 {h : Nat} {P : pd_P} {Q : pq} {P' : pd_P} {Q' : pq} (ih : SegH h P Q P' Q') : pN P = (Fq Q (qs Q)).1 := ih.2.2.2.2.1
theorem SegH.n {h : Nat} {P : pd_P} {Q : pq} {P' : pd_P} {Q' : pq} (ih : SegH h P Q P' Q') : pN P' = (Fq Q' (qs Q')).1 := ih.2.2.2.2.2.1
theorem SegH.gd {h : Nat} {P : pd_P} {Q : pq} {P' : pd_P} {Q' : pq} (ih : SegH h P Q P' Q') : pW P' = false → ∀ i, qs Q ≤ i → i < qs Q' → i ≠ h → Cn (cq Q') (Fq Q') (pO P') (pV P') (qs Q') i (Fq Q' i).1 (cq Q' i) (aq Q' i) (xq Q' i) (Fq Q' i).2 := ih.2.2.2.2.2.2.1
theorem SegH.wm {h : Nat} {P : pd_P} {Q : pq} {P' : pd_P} {Q' : pq} (ih : SegH h P Q P' Q') : pW P' = false → pW P = false := ih.2.2.2.2.2.2.2
section SEGH
variable {P P' P0 P1 P2 : pd_P} {Q Q' Q0 Q1 Q2 : pq} {m h : Nat}
theorem SegH.trans (h1 : SegH h P0 Q0 P1 Q1) (h2 : Seg P1 Q1 P2 Q2) : SegH h P0 Q0 P2 Q2 := by
  have hs := h1.s
  have hs2 := h2.s
  have hF := h2.F
  refine ⟨⟨hs.1, by omega⟩, by rw [(h2.fr h hs.2).1]; exact h1.op, fun j hj => ?_, fun z hz => ?_, h1.n0, h2.n, fun hw i k1 k2 k3 => ?_, fun k => h1.wm (h2.wm k)⟩
  · have k1 := h1.fr j hj
    have k2 := h2.fr j (by omega)
    exact ⟨k2.1.trans k1.1, k2.2.1.trans k1.2.1, k2.2.2.trans k1.2.2⟩
  · have hq : (Fq Q1 (qs Q0)).1 ≤ (Fq Q1 (qs Q1)).1 := ft_le (by omega)
    have hq0 : Fq Q1 (qs Q0) = Fq Q0 (qs Q0) := ft_congr (qs Q0) (fun j hj => ⟨(h1.fr j hj).1, Or.inl (h1.fr j hj).2.1⟩) _ (Nat.le_refl _)
    have k1 := h1.fc z hz
    have k2 := h2.fc z (by rw [h1.n]; rw [h1.n0, ← hq0] at hz; omega)
    exact ⟨k2.1.trans k1.1, k2.2.trans k1.2⟩
  · by_cases ki : i < qs Q1
    · rw [hF i (by omega), (h2.fr i ki).1, (h2.fr i ki).2.1, (h2.fr i ki).2.2]
      refine (h1.gd (h2.wm hw) i k1 ki k3).congr (fun j hj => (h2.fr j hj).1) (fun j hj => hF j hj) (fun z z1 z2 => h2.fc z ?_) hs2
      rw [h1.n]
      have : (Fq Q1 (i + 1)).1 ≤ (Fq Q1 (qs Q1)).1 := ft_le ki
      have e : (Fq Q1 (i + 1)).1 = (Fq Q1 i).1 + wd (cq Q1 i) (Fq Q1 i).2 := rfl
      omega
    · exact h2.gd hw i (by omega) k2
theorem SegH.same (h1 : SegH h P Q P1 Q1) (hs : qs Q' = qs Q1) (hc : cq Q' = cq Q1) (ha : aq Q' = aq Q1) (hx : xq Q' = xq Q1) (hn : pN P' = pN P1) (ho : pO P' = pO P1) (hv : pV P' = pV P1) (hw : pW P' = false → pW P1 = false) : SegH h P Q P' Q' := by
  have hF : Fq Q' = Fq Q1 := by unfold Fq; rw [hc, ha]
  refine ⟨by rw [hs]; exact h1.s, by rw [hc]; exact h1.op, fun j hj => ?_, fun z hz => ?_, h1.n0, ?_, fun k => ?_, fun k => h1.wm (hw k)⟩
  · rw [hc, ha, hx]; exact h1.fr j hj
  · rw [ho, hv]; exact h1.fc z hz
  · rw [hn, hF, hs]; exact h1.n
  · rw [hc, ha, hx, ho, hv, hs, hF]; exact h1.gd (hw k)
/-- an order is put that isn't whole -/
theorem SegH.emit {op a : Int32} (h0 : Seg P0 Q0 P Q) (hop : op = 26 ∨ op = 28) (hs : qs Q' = qs Q + 1) (hc : cq Q' = pd_up (cq Q) (qs Q) op) (ha : aq Q' = pd_up (aq Q) (qs Q) a) (hx : xq Q' = xq Q) (hN : pN P' = pN P + wd op (Fq Q (qs Q)).2) (hf : ∀ z, z < pN P → pO P' z = pO P z ∧ pV P' z = pV P z) (hw : pW P' = false → pW P = false) : SegH (qs Q) P0 Q0 P' Q' ∧ (Fq Q' (qs Q')).2 = [] ∧ Fq Q' (qs Q) = Fq Q (qs Q) := by
  have e1 : ∀ j, j < qs Q → cq Q' j = cq Q j ∧ aq Q' j = aq Q j ∧ xq Q' j = xq Q j := by
    intro j hj
    rw [hc, ha, hx]
    unfold pd_up
    rw [if_neg (by omega), if_neg (by omega)]
    exact ⟨rfl, rfl, rfl⟩
  have hF : ∀ i, i ≤ qs Q → Fq Q' i = Fq Q i := ft_congr (qs Q) (fun j hj => ⟨(e1 j hj).1, Or.inl (e1 j hj).2.1⟩)
  have c1 : cq Q' (qs Q) = op := by rw [hc]; unfold pd_up; rw [if_pos rfl]
  have a1 : aq Q' (qs Q) = a := by rw [ha]; unfold pd_up; rw [if_pos rfl]
  have hF1 : Fq Q' (qs Q + 1) = ((Fq Q (qs Q)).1 + wd op (Fq Q (qs Q)).2, []) := by
    have e : Fq Q' (qs Q + 1) = ((Fq Q' (qs Q)).1 + wd (cq Q' (qs Q)) (Fq Q' (qs Q)).2, tyS (cq Q' (qs Q)) (aq Q' (qs Q)) (Fq Q' (qs Q)).2) := rfl
    rw [e, c1, a1, hF _ (Nat.le_refl _)]
    rcases hop with rfl | rfl
    · rw [tyS26]
    · rw [tyS28]
  have hs0 := h0.s
  have hl0 := h0.le
  refine ⟨⟨⟨hs0, by omega⟩, by rw [c1]; exact hop, fun j hj => ?_, fun z hz => ?_, h0.n0, by rw [hs, hF1, hN, h0.n], fun hw1 i k1 k2 k3 => ?_, fun k => h0.wm (hw k)⟩, by rw [hs, hF1], hF _ (Nat.le_refl _)⟩
  · have k1 := h0.fr j hj
    have k2 := e1 j (by omega)
    exact ⟨k2.1.trans k1.1, k2.2.1.trans k1.2.1, k2.2.2.trans k1.2.2⟩
  · have k1 := h0.fc z hz
    have k2 := hf z (by omega)
    exact ⟨k2.1.trans k1.1, k2.2.trans k1.2⟩
  · have ki : i < qs Q := by omega
    rw [hF i (by omega), (e1 i ki).1, (e1 i ki).2.1, (e1 i ki).2.2, hs]
    refine (h0.gd (hw hw1) i k1 ki).congr (fun j hj => (e1 j hj).1) (fun j hj => hF j hj) (fun z z1 z2 => hf z ?_) (by omega)
    rw [h0.n]
    have : (Fq Q (i + 1)).1 ≤ (Fq Q (qs Q)).1 := ft_le ki
    have e : (Fq Q (i + 1)).1 = (Fq Q i).1 + wd (cq Q i) (Fq Q i).2 := rfl
    have z2' : z < (Fq Q i).1 + wd (cq Q i) (Fq Q i).2 := z2
    omega
/-- it gets its numbers -/
theorem SegH.patch (h1 : SegH h P Q P1 Q1) (hs : qs Q' = qs Q1) (hc : cq Q' = cq Q1) (ha : ∀ j, j ≠ h → aq Q' j = aq Q1 j ∧ xq Q' j = xq Q1 j) (hn : pN P' = pN P1) (ho : pO P' = pO P1) (hv : ∀ z, z < (Fq Q1 h).1 ∨ (Fq Q1 (h + 1)).1 ≤ z → pV P' z = pV P1 z) (hw : pW P' = false → pW P1 = false) : SegH h P Q P' Q' ∧ ∀ i, Fq Q' i = Fq Q1 i := by
  have s1 := h1.s
  have hF : ∀ i, Fq Q' i = Fq Q1 i := by
    intro i
    refine ft_congr i (fun j hj => ⟨by rw [hc], ?_⟩) i (Nat.le_refl _)
    by_cases k : j = h
    · right; rw [k]; exact h1.op
    · left; exact (ha j k).1
  refine ⟨⟨by rw [hs]; exact h1.s, by rw [hc]; exact h1.op, fun j hj => ?_, fun z hz => ?_, h1.n0, by rw [hn, hF, hs]; exact h1.n, fun k i k1 k2 k3 => ?_, fun k => h1.wm (hw k)⟩, hF⟩
  · rw [hc, (ha j (by omega)).1, (ha j (by omega)).2]; exact h1.fr j hj
  · have hq : (Fq Q1 (qs Q)).1 ≤ (Fq Q1 h).1 := ft_le (by omega)
    have hq0 : Fq Q1 (qs Q) = Fq Q (qs Q) := ft_congr (qs Q) (fun j hj => ⟨(h1.fr j hj).1, Or.inl (h1.fr j hj).2.1⟩) _ (Nat.le_refl _)
    have k1 := h1.fc z hz
    rw [ho, hv z (Or.inl (by rw [h1.n0, ← hq0] at hz; omega))]
    exact k1
  · rw [hF i, hc, (ha i k3).1, (ha i k3).2, hs]
    refine (h1.gd (hw k) i k1 (by omega) k3).congr (fun j _ => rfl) (fun j _ => hF j) (fun z z1 z2 => ⟨by rw [ho], hv z ?_⟩) (Nat.le_refl _)
    have e : (Fq Q1 (i + 1)).1 = (Fq Q1 i).1 + wd (cq Q1 i) (Fq Q1 i).2 := rfl
    have z2' : z < (Fq Q1 i).1 + wd (cq Q1 i) (Fq Q1 i).2 := z2
    by_cases ki : i < h
    · left
      have : (Fq Q1 (i + 1)).1 ≤ (Fq Q1 h).1 := ft_le ki
      omega
    · right
      have : (Fq Q1 (h + 1)).1 ≤ (Fq Q1 i).1 := ft_le (by omega)
      omega
theorem SegH.fill (h1 : SegH h P Q P' Q') (hC : pW P' = false → Cn (cq Q') (Fq Q') (pO P') (pV P') (qs Q') h (Fq Q' h).1 (cq Q' h) (aq Q' h) (xq Q' h) (Fq Q' h).2) : Seg P Q P' Q' := by
  have s1 := h1.s
  refine ⟨by omega, h1.fr, h1.fc, h1.n0, h1.n, fun k i k1 k2 => ?_, h1.wm⟩
  by_cases ki : i = h
  · rw [ki]; exact hC k
  · exact h1.gd k i k1 k2 ki
end SEGH
/-- a statement is read -/
abbrev Sta (m : Nat) (P : pd_P) (Q : pq) (P' : pd_P) (Q' : pq) : Prop := (Pre m P' Q') ∧ (Ctx Q Q') ∧ (qt Q' = qt Q) ∧ (pA P < pA P') ∧ (pN P' + pA P ≤ pN P + pA P') ∧ (qs Q < qs Q') ∧ (Seg P Q P' Q') ∧ ((Fq Q' (qs Q')).2 = []) ∧ (nE (cq Q' (qs Q)))
theorem Sta.pre {m : Nat} {P : pd_P} {Q : pq} {P' : pd_P} {Q' : pq} (ih : Sta m P Q P' Q') : Pre m P' Q' := ih.1
theorem Sta.ctx {m : Nat} {P : pd_P} {Q : pq} {P' : pd_P} {Q' : pq} (ih : Sta m P Q P' Q') : Ctx Q Q' := ih.2.1
theorem Sta.t {m : Nat} {P : pd_P} {Q : pq} {P' : pd_P} {Q' : pq} (ih : Sta m P Q P' Q') : qt Q' = qt Q := ih.2.2.1
theorem Sta.i {m : Nat} {P : pd_P} {Q : pq} {P' : pd_P} {Q' : pq} (ih : Sta m P Q P' Q') : pA P < pA P' := ih.2.2.2.1
theorem Sta.gr {m : Nat} {P : pd_P} {Q : pq} {P' : pd_P} {Q' : pq} (ih : Sta m P Q P' Q') : pN P' + pA P ≤ pN P + pA P' := ih.2.2.2.2.1
theorem Sta.s {m : Nat} {P : pd_P} {Q : pq} {P' : pd_P} {Q' : pq} (ih : Sta m P Q P' Q') : qs Q < qs Q' := ih.2.2.2.2.2.1
theorem Sta.seg {m : Nat} {P : pd_P} {Q : pq} {P' : pd_P} {Q' : pq} (ih : Sta m P Q P' Q') : Seg P Q P' Q' := ih.2.2.2.2.2.2.1
theorem Sta.ty {m : Nat} {P : pd_P} {Q : pq} {P' : pd_P} {Q' : pq} (ih : Sta m P Q P' Q') : (Fq Q' (qs Q')).2 = [] := ih.2.2.2.2.2.2.2.1
theorem Sta.fst {m : Nat} {P : pd_P} {Q : pq} {P' : pd_P} {Q' : pq} (ih : Sta m P Q P' Q') : nE (cq Q' (qs Q)) := ih.2.2.2.2.2.2.2.2
def SC (tx : Nat → Int32) (m : Nat) (P : pd_P) (Q : pq) (P' : pd_P) : Prop := RF tx m 0 P Q P' ∨ ∃ Q', Sta m P Q P' Q' ∧ ∀ o, RR tx m 3 (pA P') Q' o → RR tx m 0 (pA P) Q o
section EQ6
variable {I0 : pd_I} {tx : Nat → Int32} {P P' P0 P1 P2 P3 P4 P5 : pd_P} {Q Q' Q0 Q1 Q2 Q2x Q3 Q4 : pq} {m i dp : Nat} {b b1 b2 : Bool} {r r' c s mk nx : Int32} {e u : pd_P → Bool × pd_P}
theorem RT.inv3 (h : RT c s Q nx Q') (hs : s = 3) : RE c Q nx Q' := by
  induction h using RT.rc with
  | st _ _ => exact absurd hs (by decide)
  | un _ _ _ => exact absurd hs (by decide)
  | bi _ _ _ _ => exact absurd hs (by decide)
  | row _ _ _ => exact absurd hs (by decide)
  | rowS _ _ _ => exact absurd hs (by decide)
  | par _ _ _ => exact absurd hs (by decide)
  | blk _ _ _ _ _ => exact absurd hs (by decide)
  | fin _ _ _ _ _ _ => exact absurd hs (by decide)
  | no _ _ _ _ _ _ _ => exact absurd hs (by decide)
  | en h => exact h
  | si _ h _ => exact absurd hs (sOK.n2 h).2
theorem RE.inv (h : RE c Q nx Q') (hE : ¬ isE c) : nx = -1 := by
  induction h using RE.rc with
  | semi _ => exact absurd (Or.inl rfl) hE
  | zero _ => exact absurd (Or.inr (Or.inr (Or.inr rfl))) hE
  | bar _ _ _ _ _ => exact absurd (Or.inr (Or.inr (Or.inl rfl))) hE
  | both _ _ _ _ _ => exact absurd (Or.inr (Or.inl rfl)) hE
  | cond _ _ _ _ _ _ _ _ => exact absurd (Or.inr (Or.inl rfl)) hE
  | loop _ _ _ _ _ _ _ _ => exact absurd (Or.inr (Or.inl rfl)) hE
  | no _ _ _ _ _ => rfl
/-- behind an expression that ends a statement -/
theorem rr_fin {G : Nat ⊕ pq → Prop} (hR : Red 1 Q2x Q3) (hq : qab Q3 = mk) (hmk : mk = 1 ∨ mk = 4) (hb : bnc Q3) (hrun : ∀ o, RR tx m 2 i Q2x o → G o) (hno : i ≤ m → rk (chA tx m i) ≠ 0 → G (.inl i)) {o : Nat ⊕ pq} (h : RR tx m s i (qcl Q3 mk) o) (hs : s = 3) : G o := by
  obtain ⟨r1, r2⟩ := hR.ok
  have hfin : ∀ c nx Q', isE c → RE c (qcl Q3 mk) nx Q' → RT c 2 Q2x nx Q' := fun c nx Q' hE hr => .fin r1 (by rw [r2]; exact hq) hmk hE (by rw [r2]; exact hb) (by rw [r2]; exact hr)
  have hcl : ∀ (hi : i ≤ m), ¬ isE (chA tx m i) → G (.inl i) := by
    intro hi hE
    by_cases hk : rk (chA tx m i) = 0
    · exact hrun _ (rr_cl_no hR hi hq (by have := hb.2.1; omega) hk (fun _ => by rcases hmk with rfl | rfl <;> decide) (fun _ => by rcases hmk with rfl | rfl <;> decide) (fun _ h => by rcases hmk with rfl | rfl <;> rcases h with h | h <;> exact absurd h (by decide)) (fun h => absurd h hE))
    · exact hno hi hk
  generalize qcl Q3 mk = Qx at h hfin
  induction h using RR.rc with
  | @go s nx i Qx Q' o h1 h2 h3 h4 h5 _ =>
    have hre := h2.inv3 hs
    by_cases hE : isE (tx i)
    · exact hrun _ (.go h1 (hfin _ _ _ hE hre) h3 h4 h5)
    · have := hre.inv hE
      rw [this] at h3
      exact absurd h3 (by decide)
  | @no s i Qx Q' h1 h2 =>
    have hre := h2.inv3 hs
    by_cases hE : isE (chA tx m i)
    · exact hrun _ (.no h1 (hfin _ _ _ hE hre))
    · exact hcl h1 hE
  | @dn s i Qx Q' h1 h2 h3 =>
    have hre := h2.inv3 hs
    by_cases hE : isE (chA tx m i)
    · exact hrun _ (.dn h1 (hfin _ _ _ hE hre) h3)
    · have := hre.inv hE
      exact absurd this (by decide)
  | dig _ _ _ _ _ => exact absurd hs (by decide)
  | out _ h => exact absurd hs h
/-- what can't stand behind a statement -/
theorem rr_en_no (H : Tx I0 m tx) (hi : i ≤ m) (hh : qh Q ≤ 48) (hn : chA tx m i = 0 → qh Q ≠ 0) (h59 : chA tx m i ≠ 59) (h1 : chA tx m i = 124 → qab Q ≠ 12) (h2 : chA tx m i = 125 → qab Q ≠ 10 ∧ qab Q ≠ 11 ∧ qab Q ≠ 13) : RR tx m 3 i Q (.inl i) := by
  by_cases h0 : chA tx m i = 0
  · have t : RT 0 3 Q (if qh Q = 0 then 10 else -1) Q := .en (.zero (by omega))
    rw [if_neg (hn h0)] at t
    exact .no hi (by rw [h0]; exact t)
  · exact .no hi (.en (.no (by omega) h59 h0 h1 h2))
theorem rr_st (hi : i < m) (hc : tx i = c) (H : Tx I0 m tx) (hh : qh Q ≤ 48) (he : qst c Q = (r, Q')) (h0 : 0 ≤ r) (h1 : r ≠ 10) : ∀ o, RR tx m r (i + 1) Q' o → RR tx m 0 i Q o := by
  intro o h
  have t : RT (tx i) 0 Q (qst c Q).1 (qst c Q).2 := by
    rw [hc]
    exact .st (by rw [← hc]; exact tx_0 H hi) (by omega)
  rw [he] at t
  exact .go hi t h0 h1 h
theorem rr_st_no (H : Tx I0 m tx) (hi : i ≤ m) (hh : qh Q ≤ 48) (he : i < m → (qst (tx i) Q).1 = -1) : RR tx m 0 i Q (.inl i) := by
  by_cases h : i < m
  · have t : RT (tx i) 0 Q (qst (tx i) Q).1 (qst (tx i) Q).2 := .st (tx_0 H h) (by omega)
    rw [he h] at t
    refine .no hi (Q' := (qst (tx i) Q).2) ?_
    unfold chA
    rw [if_pos h]
    exact t
  · have e : i = m := by omega
    subst e
    exact .out (by decide) (by decide)
end EQ6
