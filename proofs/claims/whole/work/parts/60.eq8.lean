/-! THE TWO READERS: settings -/
section EQ8
variable {I0 : pd_I} {tx : Nat → Int32} {P P' P0 P1 P2 P3 P4 P5 : pd_P} {Q Q' Q0 Q1 Q2 Q2x Q3 Q4 X : pq} {m i dp : Nat} {b b1 b2 w : Bool} {r r' c s mk nx : Int32} {e e1 u : pd_P → Bool × pd_P}
theorem isR7 : ∀ k : Nat, k < 7 → (isR (Int32.ofNat k) = true ∧ ¬ (Int32.ofNat k < 4) ∧ Int32.ofNat k ≠ 7) ∨ (isR (Int32.ofNat k) = false ∧ Int32.ofNat k < 4 ∧ Int32.ofNat k ≠ 7) := by decide +kernel
theorem cq_sG {v : Int32} : cq (sG Q v) = cq Q := rfl
theorem aq_sG {v : Int32} : aq (sG Q v) = aq Q := rfl
theorem xq_sG {v : Int32} : xq (sG Q v) = xq Q := rfl
theorem pu_s : qs (qpu Q c) = qs Q := rfl
theorem pu_h : qh (qpu Q c) = qh Q + 1 := rfl
theorem pu_t : qt (qpu Q c) = qt Q := rfl
theorem pu_d : qd (qpu Q c) = qd Q := rfl
theorem pu_g : qg (qpu Q c) = qg Q := rfl
theorem pu_n : qn (qpu Q c) = qn Q := rfl
theorem pu_m : qm (qpu Q c) = qm Q := rfl
theorem pu_c : cq (qpu Q c) = cq Q := rfl
theorem pu_a : aq (qpu Q c) = aq Q := rfl
theorem pu_x : xq (qpu Q c) = xq Q := rfl
theorem pu_F : Fq (qpu Q c) = Fq Q := rfl
theorem pu_o {j : Nat} (h : j < qh Q) : qo (qpu Q c) j = qo Q j := by
  show pd_up (qo Q) (qh Q) c j = _
  unfold pd_up; rw [if_neg (by omega)]
theorem pu_f {j : Nat} (h : j < qh Q) : qf (qpu Q c) j = qf Q j := by
  show pd_up (qf Q) (qh Q) (Int32.ofNat (qs Q)) j = _
  unfold pd_up; rw [if_neg (by omega)]
theorem qsi7 : qsi 7 c Q = if c = 61 then (1, qpu Q 1) else (-1, Q) := by
  unfold qsi
  rw [if_neg (by decide), if_neg (by decide), if_neg (by decide), if_pos rfl]
theorem sOK7 : sOK 7 := Or.inr (Or.inr (Or.inr (Or.inl rfl)))
theorem pk_pa (h1 : pR P = pR P') (h2 : pA P = pA P') : pk I0 m P = pk I0 m P' := by unfold pk; rw [h1, h2]
/-- marks and code as in Q, the mark mk on top -/
theorem pre_of (hp : Pre m P Q) (hA : pA P < pA P1) (hm : pA P1 ≤ m) (h1 : pR P1 = pR P) (h2 : pW P1 = pW P) (h3 : pS P1 = pS P + 1) (h4 : pN P1 = pN P) {n g : Int32} (hn : n = qn Q + 1) : Pre m P1 (qpu (sG (sN Q n) g) mk) := by
  have x1 := hp.b1
  have x2 := hp.b2
  have x3 := hp.b3
  exact ⟨h1.trans hp.r, hm, h2.trans hp.w, by rw [h3, hp.c]; exact hn.symm, show qs Q + (qh Q + 1) ≤ _ by omega, show qt Q ≤ _ by omega, by omega, by rw [h4]; exact hp.n⟩
theorem set_c {k : Nat} (H : Tx I0 m tx) (he : ∀ P Q, Pre m P Q → qd Q = Int32.ofNat dp → rk (qab Q) < 1 → qab Q ≠ 8 → EC I0 tx m P Q (e P)) (hp : Pre m P Q) (hd : qd Q = Int32.ofNat dp) (hty : (Fq Q (qs Q)).2 = []) (hc : pk I0 m P = c) (c0 : c ≠ 0) (hk : k < 7) (hq : qst c Q = (7, sG (sN Q (qn Q + 1)) (Int32.ofNat k))) : SC tx m P Q (setS I0 m e (Int32.ofNat k) (sts P)) := by
  have hm := H.m
  obtain ⟨hA, ht⟩ := pk_at H hp.r hc c0
  have x1 := hp.b1
  have x2 := hp.b2
  have x3 := hp.b3
  have eA : pA (adv (sts P)) = pA P + 1 := by rw [pA_adv (by rw [pA_sts]; omega), pA_sts]
  have eR : pR (adv (sts P)) = false := by rw [pR_adv]; exact hp.r
  have hgo := rr_st (Q := Q) hA ht H (by omega) hq (by decide) (by decide)
  generalize hQ0 : sG (sN Q (qn Q + 1)) (Int32.ofNat k) = Q0 at *
  have hb : qs Q0 + qh Q0 ≤ 62 := by rw [← hQ0]; show qs Q + qh Q ≤ 62; omega
  unfold setS
  by_cases c1 : pk I0 m (adv (sts P)) = 61
  · have en : nd I0 m (adv (sts P)) 61 = (true, adv (adv (sts P))) := by unfold nd; rw [if_pos c1]
    rw [en, if_pos rfl]
    obtain ⟨hA2, ht2⟩ := pk_at H eR c1 (by decide)
    have hgo2 := rr_si (Q := Q0) H sOK7 hA2 hb (by rw [ht2, qsi7, if_pos rfl]) (show (0 : Int32) ≤ 1 by decide) (show (1 : Int32) ≠ 10 by decide)
    rw [eA] at hgo2 hA2
    have eA2 : pA (adv (adv (sts P))) = pA P + 2 := by rw [pA_adv (by omega), eA]
    have eN : pN (adv (adv (sts P))) = pN P := by rw [pN_adv, pN_adv]; rfl
    have pre : Pre m (adv (adv (sts P))) (qpu Q0 1) := by rw [← hQ0]; exact pre_of hp (by omega) (by omega) (by rw [pR_adv, pR_adv]; rfl) (by rw [pW_adv, pW_adv]; rfl) (by rw [pS_adv, pS_adv]; rfl) eN rfl
    have q1 : qd (qpu Q0 1) = Int32.ofNat dp := by rw [← hQ0]; exact hd
    have q2 : qg (qpu Q0 1) = Int32.ofNat k := by rw [← hQ0]; rfl
    have q3 : qh (qpu Q0 1) = qh Q + 1 := by rw [← hQ0]; rfl
    have q4 : qt (qpu Q0 1) = qt Q := by rw [← hQ0]; rfl
    have q5 : (Fq (qpu Q0 1) (qs (qpu Q0 1))).2 = [] := by rw [← hQ0]; exact hty
    have q6 : qs (qpu Q0 1) = qs Q := by rw [← hQ0]; rfl
    have sg0 : Seg P Q (adv (adv (sts P))) (qpu Q0 1) := by rw [← hQ0]; exact (Seg.refl hp.n).same rfl rfl rfl rfl eN (by rw [pO_adv, pO_adv]; rfl) (by rw [pV_adv, pV_adv]; rfl) (fun k => by rw [pW_adv, pW_adv] at k; exact k)
    have cx : Ct1 Q (qpu Q0 1) := by rw [← hQ0]; exact Ct1.pu
    obtain ⟨hE, hEn⟩ := he _ _ pre q1 (by rw [qab_pu]; decide) (by rw [qab_pu]; decide)
    have qm1 : qab (qpu Q0 1) = 1 := qab_pu
    generalize qpu Q0 1 = Q1 at *
    generalize hP1 : adv (adv (sts P)) = P1 at *
    rw [eA2] at hEn
    show SC tx m P Q (add (if isR (Int32.ofNat k) = true then (e P1).2 else ni (e P1).2 (e P1).1) 17 (Int32.ofNat k))
    have ew : (if isR (Int32.ofNat k) = true then (e P1).2 else ni (e P1).2 (e P1).1) = ni (e P1).2 (if isR (Int32.ofNat k) = true then false else (e P1).1) := by
      split
      · rw [ni_f]
      · rfl
    rw [ew]
    cases hr : pR (e P1).2
    · obtain ⟨Q2x, Q3, hv, hR, hh, hrun⟩ := hE.val hr
      rw [eA2] at hrun
      right
      have y0 := hv.pre.i
      have y1 := hv.pre.b1
      have y2 := hv.pre.b2
      have t3 := hv.t
      have h3 := hv.ctx.h
      have g3 : qg Q3 = Int32.ofNat k := hv.g.trans q2
      have rt : qr Q3 (qt Q3 - 1) = pd_b (e P1).1 := by rw [t3, Nat.add_sub_cancel]; exact hv.tr
      have hi7 := isR7 k hk
      have n7 : qg Q3 ≠ 7 := by rw [g3]; rcases hi7 with h | h; exact h.2.2; exact h.2.2
      have hS := sta_fin (Y := qcl Q3 1) (w := if isR (Int32.ofNat k) = true then false else (e P1).1) (op := 20) (a := qg Q3) (o := 17) (v := Int32.ofNat k) hp hm sg0 (by rw [eA2, eN]; omega) cx hv (hv.e (qs Q) (by omega) (by have := hv.s; omega)).nE qcl_s (by rw [qcl_c, qco0 n7]) (by rw [qcl_a, qco0 n7]) qcl_x qcl_h qcl_o qcl_f qcl_d qcl_n qcl_t (by
          rcases hi7 with ⟨k1, k2, k3⟩ | ⟨k1, k2, k3⟩
          · rw [k1, if_pos rfl]
            exact qcl_w (by rw [g3]; rintro ⟨_, h | h⟩; exact k2 h; exact k3 h)
          · rw [k1, if_neg Bool.false_ne_true]
            exact qcl_m rfl (Or.inl (by rw [g3]; exact k2)) rt) (fun t => (tyS_fin (a := 0) (by simp)).2) (fun t => (tyS_fin (by simp)).1) (fun hw c F oC vC H i p x h1 h2 => by
          rw [q5, g3]
          refine .set hk (by cases (e P1).1 <;> decide) (fun h9 => ?_) h1 h2
          rw [h9, if_neg Bool.false_ne_true] at hw
          rw [hw]; rfl)
      refine ⟨_, hS, fun o h => ?_⟩
      rw [pA_add, pA_ni] at h
      exact rr_fin hR (by rw [hv.ctx.ab, qm1]) (Or.inl rfl) ⟨by omega, by omega, by omega, by omega⟩ (fun o h => hgo _ (hgo2 _ (hrun _ h))) (fun _ hk => hgo _ (hgo2 _ (hEn hr (by rw [pk_tx H hr]; exact hk)))) h rfl
    · left
      rcases hE with ⟨_, k2, k3⟩ | ⟨_, _, hv, _⟩
      · refine ⟨by rw [pR_add, pR_ni]; exact hr, by rw [pA_add, pA_ni]; exact k2, ?_⟩
        rw [pA_add, pA_ni]
        rw [eA2] at k3
        exact hgo _ (hgo2 _ k3)
      · have := hv.pre.r
        rw [hr] at this; cases this
  · have en : nd I0 m (adv (sts P)) 61 = (false, rfs (adv (sts P))) := by unfold nd; rw [if_neg c1]
    rw [en, if_neg Bool.false_ne_true]
    left
    refine ⟨rfl, by show pA (adv (sts P)) ≤ m; omega, ?_⟩
    show RR tx m 0 (pA P) Q (.inl (pA (adv (sts P))))
    have h9 := rr_si_no (Q := Q0) (i := pA (adv (sts P))) H sOK7 (by omega) hb (fun hi => by
      rw [pk_tx H eR] at c1
      unfold chA at c1
      rw [if_pos hi] at c1
      rw [qsi7, if_neg c1])
    rw [eA] at h9 ⊢
    exact hgo _ h9
/-- a place of the row is set -/
theorem rows_c (H : Tx I0 m tx) (hdp : dp ≤ 5) (he : ∀ P Q, Pre m P Q → qd Q = Int32.ofNat dp → rk (qab Q) < 1 → qab Q ≠ 8 → EC I0 tx m P Q (e P)) (he1 : dp < 5 → ∀ P Q, Pre m P Q → qd Q = Int32.ofNat (dp + 1) → rk (qab Q) < 1 → qab Q ≠ 8 → EC I0 tx m P Q (e1 P)) (hp : Pre m P Q) (hd : qd Q = Int32.ofNat dp) (hty : (Fq Q (qs Q)).2 = []) (hc : pk I0 m P = 118) : SC tx m P Q (rowS I0 m dp e e1 (adv (sts P))) := by
  have hm := H.m
  obtain ⟨hA, ht⟩ := pk_at H hp.r hc (by decide)
  have x1 := hp.b1
  have x2 := hp.b2
  have x3 := hp.b3
  have eA : pA (adv (sts P)) = pA P + 1 := by rw [pA_adv (by rw [pA_sts]; omega), pA_sts]
  have hgo := rr_st (Q := Q) hA ht H (by omega) (show qst 118 Q = (5, sN Q (qn Q + 1)) from rfl) (by decide) (by decide)
  have eN : pN (adv (sts P)) = pN P := by rw [pN_adv]; rfl
  have pre0 : Pre m (adv (sts P)) (sN Q (qn Q + 1)) := ⟨by rw [pR_adv]; exact hp.r, by omega, by rw [pW_adv]; exact hp.w, by rw [pS_adv]; show pS P + 1 = qn Q + 1; rw [hp.c], by rw [eA]; show qs Q + qh Q ≤ _; omega, by rw [eA]; show qt Q ≤ _; omega, by rw [eA, eN]; omega, by rw [eN]; exact hp.n⟩
  have sg00 : Seg P Q (adv (sts P)) (sN Q (qn Q + 1)) := (Seg.refl hp.n).same rfl rfl rfl rfl eN (by rw [pO_adv]; rfl) (by rw [pV_adv]; rfl) (fun k => by rw [pW_adv] at k; exact k)
  have r1 : qh (sN Q (qn Q + 1)) = qh Q := rfl
  have r2 : qt (sN Q (qn Q + 1)) = qt Q := rfl
  have r3 : qs (sN Q (qn Q + 1)) = qs Q := rfl
  have r4 : qo (sN Q (qn Q + 1)) = qo Q := rfl
  have r5 : qf (sN Q (qn Q + 1)) = qf Q := rfl
  have r6 : qd (sN Q (qn Q + 1)) = qd Q := rfl
  have r7 : (Fq (sN Q (qn Q + 1)) (qs (sN Q (qn Q + 1)))).2 = [] := hty
  generalize sN Q (qn Q + 1) = Q0 at *
  generalize hPa : adv (sts P) = Pa at *
  unfold rowS
  rcases row_c (s := 5) (mk := 7) H (Or.inr ⟨rfl, rfl⟩) hdp he1 pre0 (r6.trans hd) with ⟨k1, k2, k3⟩ | ⟨P3, Q3, b, Q2x, k0, hv, hR, k1, k2, k3, k4⟩
  · left
    rw [eA] at k3
    have en := nd_r (I0 := I0) (m := m) (P := rowP I0 m dp e1 Pa) (y := 61) (by decide) k1
    rw [en, if_neg Bool.false_ne_true]
    exact ⟨rfl, k2, hgo _ k3⟩
  · rw [eA] at k0 k4
    have eA1 : pA (adv Pa) = pA P + 2 := by rw [pA_adv (by omega), eA]
    have gr := hv.gr
    rw [eA1, pN_adv, eN] at gr
    have y0 := hv.pre.i
    have y1 := hv.pre.b1
    have y2 := hv.pre.b2
    have y3 := hv.pre.b3
    have y5 := hv.i
    rw [eA1] at y5
    have t3 : qt Q3 = qt Q + 1 := by rw [← r2]; exact hv.t
    have h3 : qh Q3 = qh Q + 1 := by rw [← r1]; exact hv.ctx.h
    have l1 : pN (ni P3 b) < 49 := by rw [pN_ni]; omega
    have rt : qr Q3 (qt Q3 - 1) = pd_b b := by rw [t3, Nat.add_sub_cancel, ← r2]; exact hv.tr
    have ty3 : (Fq Q3 (qs Q3)).2 = [tg b] := by
      rw [hv.ty]
      show tg b :: (Fq Q0 (qs Q0)).2 = _
      rw [r7]
    have d3 : qd Q3 = qd Q + 1 := by rw [hv.ctx.d, ← r6]; rfl
    have o3 : ∀ j, j < qh Q → qo Q3 j = qo Q j := by
      intro j hj
      rw [hv.ctx.o j (show j < qh Q0 + 1 by omega)]
      show pd_up (qo Q0) (qh Q0) 7 j = _
      unfold pd_up; rw [if_neg (by omega), r4]
    have f3 : ∀ j, j < qh Q → qf Q3 j = qf Q j := by
      intro j hj
      rw [hv.ctx.f j (show j < qh Q0 + 1 by omega)]
      show pd_up (qf Q0) (qh Q0) (Int32.ofNat (qs Q0)) j = _
      unfold pd_up; rw [if_neg (by omega), r5]
    have e3 : eop (cq Q3 (qs Q)) := hv.e (qs Q) (show qs Q0 ≤ qs Q by omega) (by have h9 : qs Q0 < qs Q3 := hv.s; omega)
    have s3 : qs Q < qs Q3 := by have h9 : qs Q0 < qs Q3 := hv.s; omega
    have sg3 : Seg P Q P3 Q3 := sg00.trans (hv.seg.same0 rfl rfl rfl rfl pN_adv.symm pO_adv.symm pV_adv.symm (fun k => by rw [pW_adv] at k; exact k))
    have ab3 : qab Q3 = 7 := by rw [hv.ctx.ab, qab_pu]
    have cc : cq (qwh (qof Q3)) = cq Q3 := qwh_c
    have ca : aq (qwh (qof Q3)) = aq Q3 := qwh_a
    have cx : xq (qwh (qof Q3)) = xq Q3 := qwh_x
    have cs : qs (qwh (qof Q3)) = qs Q3 := qwh_s
    have cF : Fq (qwh (qof Q3)) = Fq Q3 := by unfold Fq; rw [cc, ca]
    have ch : qh (qwh (qof Q3)) = qh Q3 - 1 := qwh_h
    have ct : qt (qwh (qof Q3)) = qt Q3 - 1 := qwh_t
    have cd : qd (qwh (qof Q3)) = qd Q3 - 1 := qwh_d
    have cn : qn (qwh (qof Q3)) = qn Q3 := qwh_n
    have co : qo (qwh (qof Q3)) = qo Q3 := qwh_o
    have cf : qf (qwh (qof Q3)) = qf Q3 := qwh_f
    have cm : qm (qwh (qof Q3)) = (qm Q3 || b) := qwh_m (Q := qof Q3) (b := b) rt
    have hgo4 : ∀ o, RR tx m 7 (pA P3 + 1) (sG (qem (qwh (qof Q3)) 4 0) 7) o → RR tx m 0 (pA P) Q o := by
      intro o h
      obtain ⟨q1, q2⟩ := hR.ok
      refine hgo _ (k4 _ (.go k1 (nx := 7) (Q' := sG (qem (qwh (qof Q3)) 4 0) 7) ?_ (by decide) (by decide) h))
      rw [k2, ← q2]
      refine .rowS q1 (by rw [q2]; exact ab3) ?_
      rw [q2]
      exact ⟨by omega, by omega, by omega, by omega⟩
    generalize qwh (qof Q3) = X at *
    have g4 : qg (sG (qem X 4 0) 7) = 7 := qs_gg
    have g5 : qs (sG (qem X 4 0) 7) = qs X + 1 := qs_sg.trans em_s
    have g6 : cq (sG (qem X 4 0) 7) = cq (qem X 4 0) := cq_sG
    have g7 : aq (sG (qem X 4 0) 7) = aq (qem X 4 0) := aq_sG
    have g8 : xq (sG (qem X 4 0) 7) = xq X := xq_sG.trans xq_em
    have g9 : qh (sG (qem X 4 0) 7) = qh X := qs_hg.trans em_h
    have g10 : qt (sG (qem X 4 0) 7) = qt X := qs_tg.trans em_t
    have g11 : qd (sG (qem X 4 0) 7) = qd X := qs_dg.trans em_d
    have g12 : qn (sG (qem X 4 0) 7) = qn X := qs_ng.trans em_n
    have g13 : qo (sG (qem X 4 0) 7) = qo X := qs_og.trans em_o
    have g14 : qf (sG (qem X 4 0) 7) = qf X := qs_fg.trans em_f
    have g15 : qm (sG (qem X 4 0) 7) = qm X := qs_mg.trans em_m
    generalize sG (qem X 4 0) 7 = Q4 at *
    have sgX : Seg P Q (ni P3 b) X := sg3.same cs cc ca cx pN_ni pO_ni pV_ni (fun k => by rw [pW_ni] at k; cases hq : pW P3; rfl; rw [hq] at k; cases k)
    obtain ⟨sg, ty⟩ := Seg.emit1 (P := ni P3 b) (Q := X) (Q' := Q4) (op := 4) (a := 0) (o := 4) (v := 0) sgX.n l1 rfl g5 g6 g7 g8 (fun k => by
      have kb : b = false := by
        rw [pW_ni] at k
        cases b
        · rfl
        · rw [Bool.or_true] at k; cases k
      rw [cF, cs, ty3, show tg b = 0 by rw [kb]; rfl]
      exact .rp (at_add l1).1)
    have ty4 : (Fq Q4 (qs Q4)).2 = [2] := by rw [ty, cF, cs, ty3]; rfl
    have sg4 : Seg P Q (adv (add (ni P3 b) 4 0)) Q4 := (sgX.trans sg).same rfl rfl rfl rfl pN_adv pO_adv pV_adv (fun k => by rw [pW_adv] at k; exact k)
    have c4 : cq Q4 (qs Q) = cq Q3 (qs Q) := by rw [(sg.fr (qs Q) (by omega)).1, cc]
    have nA4 : pA (adv (add (ni P3 b) 4 0)) = pA P3 + 1 := by rw [pA_adv (by rw [pA_add, pA_ni]; omega), pA_add, pA_ni]
    have nN4 : pN (adv (add (ni P3 b) 4 0)) = pN P3 + 1 := by rw [pN_adv, pN_add l1, pN_ni]
    have nR4 : pR (adv (add (ni P3 b) 4 0)) = false := by rw [pR_adv, pR_add, pR_ni]; exact hv.pre.r
    have nW4 : pW (adv (add (ni P3 b) 4 0)) = qm Q4 := by rw [pW_adv, pW_add, pW_ni, g15, cm, hv.pre.w]
    have nS4 : pS (adv (add (ni P3 b) 4 0)) = qn Q4 := by rw [pS_adv, pS_add, pS_ni, g12, cn, hv.pre.c]
    rw [k3]
    generalize adv (add (ni P3 b) 4 0) = P4 at *
    have hb4 : qs Q4 + qh Q4 ≤ pA P3 + 1 := by rw [g5, g9, cs, ch]; omega
    by_cases c1 : pk I0 m P4 = 61
    · have en : nd I0 m P4 61 = (true, adv P4) := by unfold nd; rw [if_pos c1]
      rw [en, if_pos rfl]
      obtain ⟨hA2, ht2⟩ := pk_at H nR4 c1 (by decide)
      have hgo5 := rr_si (Q := Q4) H sOK7 hA2 (by omega) (by rw [ht2, qsi7, if_pos rfl]) (show (0 : Int32) ≤ 1 by decide) (show (1 : Int32) ≠ 10 by decide)
      rw [nA4] at hgo5 hA2
      have eA5 : pA (adv P4) = pA P3 + 2 := by rw [pA_adv (by omega), nA4]
      have pre5 : Pre m (adv P4) (qpu Q4 1) := ⟨by rw [pR_adv]; exact nR4, by omega, by rw [pW_adv, pu_m]; exact nW4, by rw [pS_adv, pu_n]; exact nS4, by rw [eA5, pu_s, pu_h]; omega, by rw [eA5, pu_t, g10, ct]; omega, by rw [eA5, pN_adv, nN4]; omega, by rw [pN_adv, pu_F, pu_s]; exact sg4.n⟩
      have q1 : qd (qpu Q4 1) = Int32.ofNat dp := by rw [pu_d, g11, cd, d3, Int32.add_sub_cancel]; exact hd
      have q2 : qg (qpu Q4 1) = 7 := pu_g.trans g4
      have q3 : qh (qpu Q4 1) = qh Q + 1 := by rw [pu_h, g9, ch]; omega
      have q5 : (Fq (qpu Q4 1) (qs (qpu Q4 1))).2 = [2] := by rw [pu_F, pu_s]; exact ty4
      have q6 : qs (qpu Q4 1) = qs Q4 := pu_s
      have q7 : cq (qpu Q4 1) = cq Q4 := pu_c
      have sg5 : Seg P Q (adv P4) (qpu Q4 1) := sg4.same pu_s pu_c pu_a pu_x pN_adv pO_adv pV_adv (fun k => by rw [pW_adv] at k; exact k)
      have cx5 : Ct1 Q (qpu Q4 1) := by
        refine ⟨q3, fun j hj => ?_, fun j hj => ?_, ?_, ?_⟩
        · rw [pu_o (by rw [g9, ch]; omega), g13, co]; exact o3 j hj
        · rw [pu_f (by rw [g9, ch]; omega), g14, cf]; exact f3 j hj
        · rw [pu_d, g11, cd, d3, Int32.add_sub_cancel]
        · rw [pu_t, g10, ct]; omega
      obtain ⟨hE, hEn⟩ := he _ _ pre5 q1 (by rw [qab_pu]; decide) (by rw [qab_pu]; decide)
      have qm1 : qab (qpu Q4 1) = 1 := qab_pu
      have eN5 : pN (adv P4) = pN P3 + 1 := by rw [pN_adv, nN4]
      generalize qpu Q4 1 = Q5 at *
      generalize adv P4 = P5 at *
      rw [eA5] at hEn
      show SC tx m P Q (add (ni (e P5).2 (e P5).1) 18 0)
      cases hr : pR (e P5).2
      · obtain ⟨Q6x, Q6, hv6, hR6, hh6, hrun6⟩ := hE.val hr
        rw [eA5] at hrun6
        right
        have z0 := hv6.pre.i
        have z1 := hv6.pre.b1
        have z2 := hv6.pre.b2
        have t6 := hv6.t
        have h6 := hv6.ctx.h
        have g6' : qg Q6 = 7 := hv6.g.trans q2
        have rt6 : qr Q6 (qt Q6 - 1) = pd_b (e P5).1 := by rw [t6, Nat.add_sub_cancel]; exact hv6.tr
        have hS := sta_fin (Y := qcl Q6 1) (w := (e P5).1) (op := 21) (a := qg Q6) (o := 18) (v := 0) hp hm sg5 (by rw [eA5, eN5]; omega) cx5 hv6 (by rw [(hv6.seg.fr (qs Q) (by omega)).1, q7, c4]; exact e3.nE) qcl_s (by rw [qcl_c, qco7 g6']) (by rw [qcl_a, qco7 g6']) qcl_x qcl_h qcl_o qcl_f qcl_d qcl_n qcl_t (qcl_m rfl (Or.inr g6') rt6) (fun t => (tyS_fin (a := 0) (by simp)).2) (fun t => (tyS_fin (by simp)).1) (fun hw c F oC vC H i p x h1 h2 => by
            rw [q5, hw]
            exact .setr h1)
        refine ⟨_, hS, fun o h => ?_⟩
        rw [pA_add, pA_ni] at h
        exact rr_fin hR6 (by rw [hv6.ctx.ab, qm1]) (Or.inl rfl) ⟨by omega, by omega, by omega, by omega⟩ (fun o h => hgo4 _ (hgo5 _ (hrun6 _ h))) (fun _ hk => hgo4 _ (hgo5 _ (hEn hr (by rw [pk_tx H hr]; exact hk)))) h rfl
      · left
        rcases hE with ⟨_, j2, j3⟩ | ⟨_, _, hv6, _⟩
        · refine ⟨by rw [pR_add, pR_ni]; exact hr, by rw [pA_add, pA_ni]; exact j2, ?_⟩
          rw [pA_add, pA_ni]
          rw [eA5] at j3
          exact hgo4 _ (hgo5 _ j3)
        · have := hv6.pre.r
          rw [hr] at this; cases this
    · have en : nd I0 m P4 61 = (false, rfs P4) := by unfold nd; rw [if_neg c1]
      rw [en, if_neg Bool.false_ne_true]
      left
      refine ⟨rfl, by show pA P4 ≤ m; omega, ?_⟩
      show RR tx m 0 (pA P) Q (.inl (pA P4))
      have h9 := rr_si_no (Q := Q4) (i := pA P4) H sOK7 (by omega) (by omega) (fun hi => by
        rw [pk_tx H nR4] at c1
        unfold chA at c1
        rw [if_pos hi] at c1
        rw [qsi7, if_neg c1])
      rw [nA4] at h9 ⊢
      exact hgo4 _ h9
end EQ8
