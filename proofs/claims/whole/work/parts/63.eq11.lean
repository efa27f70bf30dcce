/-! THE TWO READERS: two at the same time -/
section EQ11
variable {I0 : pd_I} {tx : Nat → Int32} {P P' P0 P1 P2 P3 P4 P5 P6 Pa : pd_P} {Q Q' Q0 Q1 Q2 Q2x Q3 Q4 Q5 Q6 Qa X : pq} {m i dp t : Nat} {b b1 b2 w : Bool} {r r' c s mk nx : Int32} {e e1 u : pd_P → Bool × pd_P} {bd : pd_P → pd_P}
theorem qsi4 : qsi 4 c Q = if c = 123 then (if qd Q = 5 then (-1, Q) else (0, qem (qpu (sD Q (qd Q + 1)) 12) 26 0)) else (-1, Q) := by
  unfold qsi
  rw [if_pos rfl]
theorem sOK4 : sOK 4 := Or.inl rfl
theorem pu_oh : qo (qpu Q c) (qh Q) = c := by
  show pd_up (qo Q) (qh Q) c (qh Q) = _
  unfold pd_up; rw [if_pos rfl]
theorem pu_fh : qf (qpu Q c) (qh Q) = Int32.ofNat (qs Q) := by
  show pd_up (qf Q) (qh Q) (Int32.ofNat (qs Q)) (qh Q) = _
  unfold pd_up; rw [if_pos rfl]
theorem cq_sN {v : Int32} : cq (sN Q v) = cq Q := rfl
theorem aq_sN {v : Int32} : aq (sN Q v) = aq Q := rfl
theorem xq_sN {v : Int32} : xq (sN Q v) = xq Q := rfl
theorem up_ne {f : Nat → Int32} {k j : Nat} {v : Int32} (h : j ≠ k) : pd_up f k v j = f j := by unfold pd_up; rw [if_neg h]
theorem up_eq {f : Nat → Int32} {k : Nat} {v : Int32} : pd_up f k v k = v := by unfold pd_up; rw [if_pos rfl]
/-- END is put -/
theorem Seg.fin (hn : pN P = (Fq Q (qs Q)).1) (hl : pN P < 49) (hty : (Fq Q (qs Q)).2 = []) : Seg P Q (add P 0 0) (qem Q 30 0) ∧ (Fq (qem Q 30 0) (qs Q + 1)).2 = [] := by
  obtain ⟨h1, h2⟩ := Seg.emit1 (P := P) (Q := Q) (Q' := qem Q 30 0) (op := 30) (a := 0) (o := 0) (v := 0) hn hl (tyS_fin (a := 0) (by simp)).2 em_s rfl rfl xq_em (fun _ => by rw [hty]; exact .en (at_add hl).1)
  rw [em_s] at h2
  exact ⟨h1, by rw [h2]; exact (tyS_fin (by simp)).1⟩
theorem both_c (H : Tx I0 m tx) (hdp : dp ≤ 5) (hbd : dp < 5 → ∀ P Q, Pre m P Q → qd Q = Int32.ofNat (dp + 1) → (Fq Q (qs Q)).2 = [] → BC I0 tx m P Q (bd P)) (hp : Pre m P Q) (hd : qd Q = Int32.ofNat dp) (hty : (Fq Q (qs Q)).2 = []) (hc : pk I0 m P = 38) : SC tx m P Q (bothS I0 m dp bd (adv (sts P))) := by
  have hm := H.m
  have x1 := hp.b1
  have x2 := hp.b2
  have x3 := hp.b3
  obtain ⟨hA, ht⟩ := pk_at H hp.r hc (by decide)
  have eA : pA (adv (sts P)) = pA P + 1 := by rw [pA_adv (by rw [pA_sts]; omega), pA_sts]
  have eN : pN (adv (sts P)) = pN P := by rw [pN_adv]; rfl
  have eR : pR (adv (sts P)) = false := by rw [pR_adv]; exact hp.r
  have eW : pW (adv (sts P)) = pW P := by rw [pW_adv]; rfl
  have eS : pS (adv (sts P)) = pS P + 1 := by rw [pS_adv]; rfl
  have eO : pO (adv (sts P)) = pO P := by rw [pO_adv]; rfl
  have eV : pV (adv (sts P)) = pV P := by rw [pV_adv]; rfl
  have hgo := rr_st (Q := Q) hA ht H (by omega) (show qst 38 Q = (4, sN Q (qn Q + 1)) from rfl) (by decide) (by decide)
  have j1 : qs (sN Q (qn Q + 1)) = qs Q := qs_sn
  have j2 : qh (sN Q (qn Q + 1)) = qh Q := qs_hn
  have j3 : qt (sN Q (qn Q + 1)) = qt Q := qs_tn
  have j4 : qd (sN Q (qn Q + 1)) = qd Q := qs_dn
  have j5 : qn (sN Q (qn Q + 1)) = qn Q + 1 := qs_nn
  have j6 : qm (sN Q (qn Q + 1)) = qm Q := qs_mn
  have j7 : qo (sN Q (qn Q + 1)) = qo Q := qs_on
  have j8 : qf (sN Q (qn Q + 1)) = qf Q := qs_fn
  have j9 : cq (sN Q (qn Q + 1)) = cq Q := cq_sN
  have j10 : aq (sN Q (qn Q + 1)) = aq Q := aq_sN
  have j11 : xq (sN Q (qn Q + 1)) = xq Q := xq_sN
  generalize sN Q (qn Q + 1) = Q0 at *
  generalize hP1 : adv (sts P) = P1 at *
  have hno : ∀ P', P' = rfs P1 → (pA P1 < m → tx (pA P1) = 123 → dp = 5) → SC tx m P Q P' := by
    intro P' e' h5
    left
    rw [e']
    refine ⟨rfl, by rw [pA_rfs]; omega, ?_⟩
    rw [pA_rfs]
    have h9 := rr_si_no (Q := Q0) (i := pA P1) H sOK4 (by omega) (by omega) (fun hi => by
      rw [qsi4]
      split
      · next h => rw [j4, hd, if_pos (by rw [qd5 hdp]; exact h5 hi h)]
      · rfl)
    rw [eA] at h9 ⊢
    exact hgo _ h9
  unfold bothS
  by_cases h5 : 5 ≤ dp
  · have ep : opn I0 m P1 123 dp = (false, rfs P1) := by unfold opn; rw [if_pos h5]
    rw [ep, if_neg Bool.false_ne_true]
    exact hno _ rfl (fun _ _ => by omega)
  · by_cases c1 : pk I0 m P1 = 123
    · have ep : opn I0 m P1 123 dp = (true, adv P1) := by unfold opn nd; rw [if_neg h5, if_pos c1]
      rw [ep, if_pos rfl]
      obtain ⟨hA1, ht1⟩ := pk_at H eR c1 (by decide)
      have hgo2 := rr_si (Q := Q0) H sOK4 hA1 (by omega) (by rw [ht1, qsi4, if_pos rfl, j4, hd, if_neg (by rw [qd5 hdp]; omega)]) (show (0 : Int32) ≤ 0 by decide) (show (0 : Int32) ≠ 10 by decide)
      rw [eA] at hgo2 hA1
      have eA2 : pA (adv P1) = pA P + 2 := by rw [pA_adv (by omega), eA]
      have k1 : qs (qem (qpu (sD Q0 (Int32.ofNat dp + 1)) 12) 26 0) = qs Q + 1 := by rw [em_s, pu_s, qs_sd, j1]
      have k2 : qh (qem (qpu (sD Q0 (Int32.ofNat dp + 1)) 12) 26 0) = qh Q + 1 := by rw [em_h, pu_h, qs_hd, j2]
      have k3 : qt (qem (qpu (sD Q0 (Int32.ofNat dp + 1)) 12) 26 0) = qt Q := by rw [em_t, pu_t, qs_td, j3]
      have k4 : qd (qem (qpu (sD Q0 (Int32.ofNat dp + 1)) 12) 26 0) = Int32.ofNat dp + 1 := by rw [em_d, pu_d, qs_dd]
      have k5 : qn (qem (qpu (sD Q0 (Int32.ofNat dp + 1)) 12) 26 0) = qn Q + 1 := by rw [em_n, pu_n, qs_nd, j5]
      have k6 : qm (qem (qpu (sD Q0 (Int32.ofNat dp + 1)) 12) 26 0) = qm Q := by rw [em_m, pu_m, qs_md, j6]
      have k7 : cq (qem (qpu (sD Q0 (Int32.ofNat dp + 1)) 12) 26 0) = pd_up (cq Q) (qs Q) 26 := by rw [cq_em, pu_c, cq_sD, pu_s, qs_sd, j1, j9]
      have k8 : aq (qem (qpu (sD Q0 (Int32.ofNat dp + 1)) 12) 26 0) = pd_up (aq Q) (qs Q) 0 := by rw [aq_em, pu_a, aq_sD, pu_s, qs_sd, j1, j10]
      have k9 : xq (qem (qpu (sD Q0 (Int32.ofNat dp + 1)) 12) 26 0) = xq Q := by rw [xq_em, pu_x, xq_sD, j11]
      have hq0 : qh (sD Q0 (Int32.ofNat dp + 1)) = qh Q := by rw [qs_hd, j2]
      have k10 : ∀ j, j < qh Q → qo (qem (qpu (sD Q0 (Int32.ofNat dp + 1)) 12) 26 0) j = qo Q j := fun j hj => by rw [em_o, pu_o (by rw [hq0]; exact hj), qs_od, j7]
      have k11 : ∀ j, j < qh Q → qf (qem (qpu (sD Q0 (Int32.ofNat dp + 1)) 12) 26 0) j = qf Q j := fun j hj => by rw [em_f, pu_f (by rw [hq0]; exact hj), qs_fd, j8]
      have k12 : qo (qem (qpu (sD Q0 (Int32.ofNat dp + 1)) 12) 26 0) (qh Q) = 12 := by rw [em_o, ← hq0, pu_oh]
      have k13 : qf (qem (qpu (sD Q0 (Int32.ofNat dp + 1)) 12) 26 0) (qh Q) = Int32.ofNat (qs Q) := by rw [em_f, ← hq0, pu_fh, qs_sd, j1]
      generalize qem (qpu (sD Q0 (Int32.ofNat dp + 1)) 12) 26 0 = Q2 at *
      have g1 : pN (adv P1) = pN P := by rw [pN_adv, eN]
      have g2 : pO (adv P1) = pO P := by rw [pO_adv, eO]
      have g3 : pV (adv P1) = pV P := by rw [pV_adv, eV]
      have g4 : pR (adv P1) = false := by rw [pR_adv, eR]
      have g5 : pW (adv P1) = pW P := by rw [pW_adv, eW]
      have g6 : pS (adv P1) = pS P + 1 := by rw [pS_adv, eS]
      show SC tx m P Q (both2 I0 m bd (adv P1) (add (bd (add (add (adv P1) 24 0) 1 0)) 0 0))
      generalize adv P1 = P2 at *
      have l2 : pN P2 < 49 := by omega
      have n2 : pN (add P2 24 0) = pN P + 1 := by rw [pN_add l2, g1]
      have l3 : pN (add P2 24 0) < 49 := by omega
      have b1 : pN (add (add P2 24 0) 1 0) = pN P + 2 := by rw [pN_add l3, n2]
      have b2 : pO (add (add P2 24 0) 1 0) = pd_up (pd_up (pO P) (pN P) 24) (pN P + 1) 1 := by rw [pO_add l3, n2, pO_add l2, g1, g2]
      have b3 : pV (add (add P2 24 0) 1 0) = pd_up (pd_up (pV P) (pN P) 0) (pN P + 1) 0 := by rw [pV_add l3, n2, pV_add l2, g1, g3]
      have b4 : pA (add (add P2 24 0) 1 0) = pA P + 2 := by rw [pA_add, pA_add, eA2]
      have b5 : pR (add (add P2 24 0) 1 0) = false := by rw [pR_add, pR_add, g4]
      have b6 : pW (add (add P2 24 0) 1 0) = pW P := by rw [pW_add, pW_add, g5]
      have b7 : pS (add (add P2 24 0) 1 0) = pS P + 1 := by rw [pS_add, pS_add, g6]
      generalize add (add P2 24 0) 1 0 = Pb at *
      obtain ⟨sh0, tyh, Fh⟩ := SegH.emit (P := P) (Q := Q) (P' := Pb) (Q' := Q2) (op := 26) (a := 0) (Seg.refl hp.n) (Or.inl rfl) k1 k7 k8 k9 (by rw [b1]; rfl) (fun z hz => by
        rw [b2, b3, up_ne (by omega), up_ne (by omega), up_ne (by omega), up_ne (by omega)]
        exact ⟨rfl, rfl⟩) (fun k => by rw [b6] at k; exact k)
      have pre2 : Pre m Pb Q2 := ⟨b5, by omega, by rw [b6, k6]; exact hp.w, by rw [b7, k5, hp.c], by rw [k1, k2]; omega, by rw [k3]; omega, by omega, sh0.n⟩
      have hd2 : qd Q2 = Int32.ofNat (dp + 1) := by rw [k4, pd_suc]
      unfold both2
      rcases hbd (by omega) _ _ pre2 hd2 tyh with ⟨z1, z2, z3⟩ | ⟨Q3, hS, hrun, hn59⟩
      · left
        rw [b4] at z3
        have en : nd I0 m (add (bd Pb) 0 0) 124 = (false, rfs (add (bd Pb) 0 0)) := nd_r (by decide) (by rw [pR_add]; exact z1)
        rw [en, if_neg Bool.false_ne_true]
        refine ⟨rfl, by rw [pA_rfs, pA_add]; exact z2, ?_⟩
        rw [pA_rfs, pA_add]
        exact hgo _ (hgo2 _ z3)
      · rw [b4] at hrun
        generalize bd Pb = P3 at *
        have y0 := hS.pre.i
        have y1 := hS.pre.b1
        have y2 := hS.pre.b2
        have y3 := hS.pre.b3
        have y4 := hS.i
        have y5 := hS.gr
        rw [b4, b1] at y5
        have y6 := hS.s
        have y7 := hS.seg.le
        have h3 := hS.ctx.h
        have t3 := hS.t
        have d3 : qd Q3 = Int32.ofNat (dp + 1) := hS.ctx.d.trans hd2
        have ab3 : qab Q3 = 12 := by
          rw [hS.ctx.ab, qab_of (n := qh Q) k2, k12]
        have epk : pk I0 m (add P3 0 0) = pk I0 m P3 := pk_pa pR_add pA_add
        by_cases c2 : pk I0 m P3 = 124
        · have en : nd I0 m (add P3 0 0) 124 = (true, adv (add P3 0 0)) := by unfold nd; rw [epk, if_pos c2]
          rw [en, if_pos rfl]
          obtain ⟨hA3, ht3⟩ := pk_at H hS.pre.r c2 (by decide)
          have l4 : pN P3 < 49 := by omega
          have sh3 : SegH (qs Q) P Q P3 Q3 := sh0.trans hS.seg
          obtain ⟨sgE, tyE⟩ := Seg.fin hS.pre.n l4 hS.ty
          have sh4 := sh3.trans sgE
          have f3 : qf Q3 (qh Q3 - 1) = Int32.ofNat (qs Q) := by
            rw [h3, k2, Nat.add_sub_cancel, hS.ctx.f (qh Q) (by omega)]; exact k13
          have hgo4 : ∀ o, RR tx m 0 (pA P3 + 1) (sO (sA (qem Q3 30 0) (512 + qs Q) (Int32.ofNat (qs Q3 + 1))) (qh Q3 - 1) 13) o → RR tx m 0 (pA P) Q o := by
            intro o h
            refine hgo _ (hgo2 _ (hrun _ (.go hA3 (nx := 0) (Q' := sO (sA (qem Q3 30 0) (512 + qs Q) (Int32.ofNat (qs Q3 + 1))) (qh Q3 - 1) 13) ?_ (by decide) (by decide) h)))
            rw [ht3]
            exact .en (.bar (by omega) ab3 (by omega) f3 (by omega))
          have m1 : qs (sO (sA (qem Q3 30 0) (512 + qs Q) (Int32.ofNat (qs Q3 + 1))) (qh Q3 - 1) 13) = qs Q3 + 1 := by rw [qs_so, qs_sa, em_s]
          have m2 : qh (sO (sA (qem Q3 30 0) (512 + qs Q) (Int32.ofNat (qs Q3 + 1))) (qh Q3 - 1) 13) = qh Q3 := by rw [qs_ho, qs_ha, em_h]
          have m3 : qt (sO (sA (qem Q3 30 0) (512 + qs Q) (Int32.ofNat (qs Q3 + 1))) (qh Q3 - 1) 13) = qt Q3 := by rw [qs_to, qs_ta, em_t]
          have m4 : qd (sO (sA (qem Q3 30 0) (512 + qs Q) (Int32.ofNat (qs Q3 + 1))) (qh Q3 - 1) 13) = qd Q3 := by rw [qs_do, qs_da, em_d]
          have m5 : qn (sO (sA (qem Q3 30 0) (512 + qs Q) (Int32.ofNat (qs Q3 + 1))) (qh Q3 - 1) 13) = qn Q3 := by rw [qs_no, qs_na, em_n]
          have m6 : qm (sO (sA (qem Q3 30 0) (512 + qs Q) (Int32.ofNat (qs Q3 + 1))) (qh Q3 - 1) 13) = qm Q3 := by rw [qs_mo, qs_ma, em_m]
          have m7 : cq (sO (sA (qem Q3 30 0) (512 + qs Q) (Int32.ofNat (qs Q3 + 1))) (qh Q3 - 1) 13) = cq (qem Q3 30 0) := by rw [cq_sO, cq_sA]
          have m8 : aq (sO (sA (qem Q3 30 0) (512 + qs Q) (Int32.ofNat (qs Q3 + 1))) (qh Q3 - 1) 13) = pd_up (aq (qem Q3 30 0)) (qs Q) (Int32.ofNat (qs Q3 + 1)) := by rw [aq_sO, aq_sA]
          have m9 : xq (sO (sA (qem Q3 30 0) (512 + qs Q) (Int32.ofNat (qs Q3 + 1))) (qh Q3 - 1) 13) = xq (qem Q3 30 0) := by rw [xq_sO, xq_sA]
          have m10 : qo (sO (sA (qem Q3 30 0) (512 + qs Q) (Int32.ofNat (qs Q3 + 1))) (qh Q3 - 1) 13) = pd_up (qo Q3) (qh Q3 - 1) 13 := by rw [qs_oo, qs_oa, em_o]
          have m11 : qf (sO (sA (qem Q3 30 0) (512 + qs Q) (Int32.ofNat (qs Q3 + 1))) (qh Q3 - 1) 13) = qf Q3 := by rw [qs_fo, qs_fa, em_f]
          generalize sO (sA (qem Q3 30 0) (512 + qs Q) (Int32.ofNat (qs Q3 + 1))) (qh Q3 - 1) 13 = Q4 at *
          have s4 : qs (qem Q3 30 0) = qs Q3 + 1 := em_s
          have hpN : pN P2 < 49 := by omega
          have F0 : Fq (qem Q3 30 0) (qs Q) = Fq Q (qs Q) := ft_congr (qs Q) (fun j hj => ⟨(sh4.fr j hj).1, Or.inl (sh4.fr j hj).2.1⟩) _ (Nat.le_refl _)
          have c26 : cq (qem Q3 30 0) (qs Q) = 26 := by
            rw [cq_em, up_ne (by omega), (hS.seg.fr (qs Q) (by omega)).1, k7, up_eq]
          have F1 : (Fq (qem Q3 30 0) (qs Q + 1)).1 = pN P + 2 := by
            have e9 : Fq (qem Q3 30 0) (qs Q + 1) = ((Fq (qem Q3 30 0) (qs Q)).1 + wd (cq (qem Q3 30 0) (qs Q)) (Fq (qem Q3 30 0) (qs Q)).2, tyS (cq (qem Q3 30 0) (qs Q)) (aq (qem Q3 30 0) (qs Q)) (Fq (qem Q3 30 0) (qs Q)).2) := rfl
            rw [e9, c26, F0, hp.n]; rfl
          have a4 : pA (ptH (adv (add P3 0 0)) (pN P2)) = pA P3 + 1 := by rw [pA_pt, pA_adv (by rw [pA_add]; omega), pA_add]
          have n4 : pN (ptH (adv (add P3 0 0)) (pN P2)) = pN P3 + 1 := by rw [pN_pt, pN_adv, pN_add l4]
          have o4 : pO (ptH (adv (add P3 0 0)) (pN P2)) = pO (add P3 0 0) := by rw [pO_pt, pO_adv]
          have v4 : pV (ptH (adv (add P3 0 0)) (pN P2)) = pd_up (pV (add P3 0 0)) (pN P) (Int32.ofNat (pN P3 + 1)) := by rw [pV_pt hpN, pV_adv, pN_adv, pN_add l4, g1]
          have w4 : pW (ptH (adv (add P3 0 0)) (pN P2)) = pW P3 := by rw [pW_pt, pW_adv, pW_add]
          have r4 : pR (ptH (adv (add P3 0 0)) (pN P2)) = false := by rw [pR_pt, pR_adv, pR_add]; exact hS.pre.r
          have q4 : pS (ptH (adv (add P3 0 0)) (pN P2)) = pS P3 := by rw [pS_pt, pS_adv, pS_add]
          obtain ⟨sh5, F5⟩ := sh4.patch (P' := ptH (adv (add P3 0 0)) (pN P2)) (Q' := Q4) (by rw [m1, s4]) m7 (fun j hj => by rw [m8, m9, up_ne hj]; exact ⟨rfl, rfl⟩) (by rw [n4, pN_add l4]) o4 (fun z hz => by
            rw [v4, up_ne]
            rw [F0, F1, ← hp.n] at hz
            omega) (fun k => by rw [w4] at k; rw [pW_add]; exact k)
          show SC tx m P Q (nd I0 m (ptH (add (bd (ptH (adv (add P3 0 0)) (pN P2))) 0 0) (pN (add P2 24 0))) 125).2
          generalize ptH (adv (add P3 0 0)) (pN P2) = P4 at *
          have ty4 : (Fq Q4 (qs Q4)).2 = [] := by rw [F5, m1]; exact tyE
          have pre4 : Pre m P4 Q4 := ⟨r4, by omega, by rw [w4, m6]; exact hS.pre.w, by rw [q4, m5]; exact hS.pre.c, by rw [m1, m2]; omega, by rw [m3]; omega, by omega, sh5.n⟩
          have ab4 : qab Q4 = 13 := by
            rw [qab_of (n := qh Q3 - 1) (by rw [m2]; omega), m10, up_eq]
          rcases hbd (by omega) _ _ pre4 (by rw [m4, d3]) ty4 with ⟨z1, z2, z3⟩ | ⟨Q5, hT, hrun5, hn59'⟩
          · left
            rw [a4] at z3
            obtain ⟨n1, n2'⟩ := nd_2 (I0 := I0) (m := m) (P := ptH (add (bd P4) 0 0) (pN (add P2 24 0))) (y := 125) (by decide) (by rw [pR_pt, pR_add]; exact z1)
            rw [pA_pt, pA_add] at n1
            refine ⟨n2', by rw [n1]; exact z2, ?_⟩
            rw [n1]
            exact hgo4 _ z3
          · rw [a4] at hrun5
            generalize bd P4 = P5 at *
            have u0 := hT.pre.i
            have u1 := hT.pre.b1
            have u2 := hT.pre.b2
            have u3 := hT.pre.b3
            have u4 := hT.i
            have u5 := hT.gr
            rw [a4, n4] at u5
            have u6 := hT.s
            have u7 := hT.seg.le
            have h5' := hT.ctx.h
            have t5 := hT.t
            have ab5 : qab Q5 = 13 := by rw [hT.ctx.ab, ab4]
            have epk5 : pk I0 m (ptH (add P5 0 0) (pN (add P2 24 0))) = pk I0 m P5 := pk_pa (by rw [pR_pt, pR_add]) (by rw [pA_pt, pA_add])
            by_cases c3 : pk I0 m P5 = 125
            · have en5 : nd I0 m (ptH (add P5 0 0) (pN (add P2 24 0))) 125 = (true, adv (ptH (add P5 0 0) (pN (add P2 24 0)))) := by unfold nd; rw [epk5, if_pos c3]
              rw [en5]
              obtain ⟨hA5, ht5⟩ := pk_at H hT.pre.r c3 (by decide)
              right
              have l6 : pN P5 < 49 := by omega
              have sh6 : SegH (qs Q) P Q P5 (qoff Q5) := (sh5.trans hT.seg).same off_s off_c off_a off_x rfl rfl rfl (fun k => k)
              have Fo : Fq (qoff Q5) = Fq Q5 := by unfold Fq; rw [off_c, off_a]
              obtain ⟨sgE6, tyE6⟩ := Seg.fin (P := P5) (Q := qoff Q5) sh6.n l6 (by rw [Fo, off_s]; exact hT.ty)
              have sh7 := sh6.trans sgE6
              rw [off_s] at tyE6
              have f5 : qf Q5 (qh Q5 - 1) = Int32.ofNat (qs Q) := by
                rw [h5', hT.ctx.f _ (by omega), m11, m2]; exact f3
              have hgo6 : ∀ o, RR tx m 3 (pA P5 + 1) (sX (qem (qoff Q5) 30 0) (512 + qs Q) (Int32.ofNat (qs Q5 + 1))) o → RR tx m 0 (pA P) Q o := by
                intro o h
                refine hgo4 _ (hrun5 _ (.go hA5 (nx := 3) (Q' := sX (qem (qoff Q5) 30 0) (512 + qs Q) (Int32.ofNat (qs Q5 + 1))) ?_ (by decide) (by decide) h))
                rw [ht5]
                exact .en (.both (by omega) ab5 (by omega) f5 (by omega))
              have s7 : qs (qem (qoff Q5) 30 0) = qs Q5 + 1 := by rw [em_s, off_s]
              have cold : ∀ j, j < qs Q5 → cq (qem (qoff Q5) 30 0) j = cq Q5 j := fun j hj => by rw [cq_em, off_s, up_ne (by omega), off_c]
              have aold : ∀ j, j < qs Q5 → aq (qem (qoff Q5) 30 0) j = aq Q5 j := fun j hj => by rw [aq_em, off_s, up_ne (by omega), off_a]
              have Fold : ∀ j, j ≤ qs Q5 → Fq (qem (qoff Q5) 30 0) j = Fq Q5 j := ft_congr (qs Q5) (fun j hj => ⟨cold j hj, Or.inl (aold j hj)⟩)
              have F4 : ∀ j, j ≤ qs Q4 → Fq Q5 j = Fq Q4 j := hT.seg.F
              have F7a : Fq (qem (qoff Q5) 30 0) (qs Q) = Fq Q (qs Q) := by rw [Fold _ (by omega), F4 _ (by omega), F5, F0]
              have F7b : (Fq (qem (qoff Q5) 30 0) (qs Q + 1)).1 = pN P + 2 := by rw [Fold _ (by omega), F4 _ (by omega), F5, F1]
              have w1 : qs (sX (qem (qoff Q5) 30 0) (512 + qs Q) (Int32.ofNat (qs Q5 + 1))) = qs Q5 + 1 := by rw [qs_sx, s7]
              have w2 : cq (sX (qem (qoff Q5) 30 0) (512 + qs Q) (Int32.ofNat (qs Q5 + 1))) = cq (qem (qoff Q5) 30 0) := cq_sX
              have w3 : aq (sX (qem (qoff Q5) 30 0) (512 + qs Q) (Int32.ofNat (qs Q5 + 1))) = aq (qem (qoff Q5) 30 0) := aq_sX
              have w4' : xq (sX (qem (qoff Q5) 30 0) (512 + qs Q) (Int32.ofNat (qs Q5 + 1))) = pd_up (xq (qem (qoff Q5) 30 0)) (qs Q) (Int32.ofNat (qs Q5 + 1)) := xq_sX
              have w5 : qh (sX (qem (qoff Q5) 30 0) (512 + qs Q) (Int32.ofNat (qs Q5 + 1))) = qh Q5 - 1 := by rw [qs_hx, em_h, off_h]
              have w6 : qt (sX (qem (qoff Q5) 30 0) (512 + qs Q) (Int32.ofNat (qs Q5 + 1))) = qt Q5 := by rw [qs_tx, em_t, off_t]
              have w7 : qd (sX (qem (qoff Q5) 30 0) (512 + qs Q) (Int32.ofNat (qs Q5 + 1))) = qd Q5 - 1 := by rw [qs_dx, em_d, off_d]
              have w8 : qn (sX (qem (qoff Q5) 30 0) (512 + qs Q) (Int32.ofNat (qs Q5 + 1))) = qn Q5 := by rw [qs_nx, em_n, off_n]
              have w9 : qm (sX (qem (qoff Q5) 30 0) (512 + qs Q) (Int32.ofNat (qs Q5 + 1))) = qm Q5 := by rw [qs_mx, em_m, off_m]
              have w10 : qo (sX (qem (qoff Q5) 30 0) (512 + qs Q) (Int32.ofNat (qs Q5 + 1))) = qo Q5 := by rw [qs_ox, em_o, off_o]
              have w11 : qf (sX (qem (qoff Q5) 30 0) (512 + qs Q) (Int32.ofNat (qs Q5 + 1))) = qf Q5 := by rw [qs_fx, em_f, off_f]
              generalize sX (qem (qoff Q5) 30 0) (512 + qs Q) (Int32.ofNat (qs Q5 + 1)) = Q6 at *
              have p1 : pA (adv (ptH (add P5 0 0) (pN (add P2 24 0)))) = pA P5 + 1 := by rw [pA_adv (by rw [pA_pt, pA_add]; omega), pA_pt, pA_add]
              have p2 : pN (adv (ptH (add P5 0 0) (pN (add P2 24 0)))) = pN P5 + 1 := by rw [pN_adv, pN_pt, pN_add l6]
              have p3 : pO (adv (ptH (add P5 0 0) (pN (add P2 24 0)))) = pO (add P5 0 0) := by rw [pO_adv, pO_pt]
              have p4 : pV (adv (ptH (add P5 0 0) (pN (add P2 24 0)))) = pd_up (pV (add P5 0 0)) (pN P + 1) (Int32.ofNat (pN P5 + 1)) := by rw [pV_adv, pV_pt l3, pN_add l6, n2]
              have p5 : pW (adv (ptH (add P5 0 0) (pN (add P2 24 0)))) = pW P5 := by rw [pW_adv, pW_pt, pW_add]
              have p6 : pR (adv (ptH (add P5 0 0) (pN (add P2 24 0)))) = false := by rw [pR_adv, pR_pt, pR_add]; exact hT.pre.r
              have p7 : pS (adv (ptH (add P5 0 0) (pN (add P2 24 0)))) = pS P5 := by rw [pS_adv, pS_pt, pS_add]
              show ∃ Q', Sta m P Q (adv (ptH (add P5 0 0) (pN (add P2 24 0)))) Q' ∧ ∀ o, RR tx m 3 (pA (adv (ptH (add P5 0 0) (pN (add P2 24 0))))) Q' o → RR tx m 0 (pA P) Q o
              generalize adv (ptH (add P5 0 0) (pN (add P2 24 0))) = P7 at *
              obtain ⟨sh8, F8⟩ := sh7.patch (P' := P7) (Q' := Q6) (by rw [w1, s7]) w2 (fun j hj => by rw [w3, w4', up_ne hj]; exact ⟨rfl, rfl⟩) (by rw [p2, pN_add l6]) p3 (fun z hz => by
                rw [p4, up_ne]
                rw [F7a, F7b, ← hp.n] at hz
                omega) (fun k => by rw [p5] at k; rw [pW_add]; exact k)
              have sgA : Seg P Q P7 Q6 := sh8.fill (fun k => by
                have ox : ∀ z, z < pN P + 2 → pO P7 z = pO Pb z := fun z hz => by
                  rw [p3, pO_add l6, up_ne (by omega), (hT.seg.fc z (by omega)).1, o4, pO_add l4, up_ne (by omega), (hS.seg.fc z (by omega)).1]
                have va : pV P7 (pN P) = Int32.ofNat (pN P3 + 1) := by
                  rw [p4, up_ne (by omega), pV_add l6, up_ne (by omega), (hT.seg.fc _ (by omega)).2, v4, up_eq]
                have vb : pV P7 (pN P + 1) = Int32.ofNat (pN P5 + 1) := by rw [p4, up_eq]
                have ca : aq Q6 (qs Q) = Int32.ofNat (qs Q3 + 1) := by
                  rw [w3, aold _ (by omega), (hT.seg.fr _ (by omega)).2.1, m8, up_eq]
                have cx : xq Q6 (qs Q) = Int32.ofNat (qs Q5 + 1) := by rw [w4', up_eq]
                have cc : cq Q6 (qs Q) = 26 := by
                  rw [w2, cold _ (by omega), (hT.seg.fr _ (by omega)).1, m7, c26]
                have FA : Fq Q6 (qs Q3 + 1) = Fq Q4 (qs Q4) := by rw [F8, Fold _ (by omega), F4 _ (by omega), m1]
                have FX : (Fq Q6 (qs Q5 + 1)).1 = pN P5 + 1 ∧ (Fq Q6 (qs Q5 + 1)).2 = [] := by
                  rw [F8]
                  refine ⟨?_, tyE6⟩
                  have := sgE6.n
                  rw [s7, pN_add l6] at this
                  exact this.symm
                have Fi : (Fq Q6 (qs Q + 1)).2 = [] := by
                  rw [F8, Fold _ (by omega), F4 _ (by omega), F5, sgE.F _ (by omega), hS.seg.F _ (by omega), ← k1]; exact tyh
                have FQ : Fq Q6 (qs Q) = Fq Q (qs Q) := by rw [F8, F7a]
                rw [FQ, cc, ca, cx, hty, ← hp.n]
                refine .bth ?_ ?_ ?_ ?_ ?_ ?_ (by omega) (by omega) (by omega) ?_ ?_ Fi
                · rw [ox _ (by omega), b2, up_ne (by omega), up_eq]
                · rw [ox _ (by omega), b2, up_eq]
                · rw [va, FA, ← sh5.n, n4]
                · rw [vb, FX.1]
                · rw [FA]; exact ty4
                · exact FX.2
                · rw [w2, cold _ (by omega), ← m1]; exact hT.fst
                · rw [w2, cold _ (by omega), (hT.seg.fr _ (by omega)).1, m7, cq_em, up_ne (by omega), ← k1]; exact hS.fst)
              refine ⟨Q6, ⟨⟨p6, by omega, by rw [p5, w9]; exact hT.pre.w, by rw [p7, w8]; exact hT.pre.c, by rw [w1, w5, p1]; omega, by rw [w6, p1]; omega, by omega, sgA.n⟩, ⟨by rw [w5]; omega, fun j hj => ?_, fun j hj => ?_, ?_⟩, by rw [w6, t5, m3, t3, k3], by omega, by omega, by omega, sgA, ?_, ?_⟩, fun o h => ?_⟩
              · rw [w10, hT.ctx.o j (by omega), m10, up_ne (by omega), hS.ctx.o j (by omega), k10 j hj]
              · rw [w11, hT.ctx.f j (by omega), m11, hS.ctx.f j (by omega), k11 j hj]
              · rw [w7, hT.ctx.d, m4, hS.ctx.d, k4, Int32.add_sub_cancel, hd]
              · rw [F8, w1]; exact tyE6
              · rw [w2, cold _ (by omega), (hT.seg.fr _ (by omega)).1, m7, c26]; exact ⟨by decide, by decide⟩
              · rw [p1] at h
                exact hgo6 _ h
            · left
              have en5 : nd I0 m (ptH (add P5 0 0) (pN (add P2 24 0))) 125 = (false, rfs (ptH (add P5 0 0) (pN (add P2 24 0)))) := by unfold nd; rw [epk5, if_neg c3]
              rw [en5]
              have ea5 : pA (rfs (ptH (add P5 0 0) (pN (add P2 24 0)))) = pA P5 := by rw [pA_rfs, pA_pt, pA_add]
              refine ⟨rfl, ?_, ?_⟩
              · show pA (rfs _) ≤ m
                rw [ea5]; exact u0
              · show RR tx m 0 (pA P) Q (.inl (pA (rfs _)))
                rw [ea5]
                rw [pk_tx H hT.pre.r] at c3 hn59'
                exact hgo4 _ (hrun5 _ (rr_en_no H u0 (by omega) (fun _ => by omega) hn59' (fun _ => by rw [ab5]; decide) (fun h => absurd h c3)))
        · left
          have en : nd I0 m (add P3 0 0) 124 = (false, rfs (add P3 0 0)) := by unfold nd; rw [epk, if_neg c2]
          rw [en, if_neg Bool.false_ne_true]
          refine ⟨rfl, by rw [pA_rfs, pA_add]; exact y0, ?_⟩
          rw [pA_rfs, pA_add]
          rw [pk_tx H hS.pre.r] at c2 hn59
          exact hgo _ (hgo2 _ (hrun _ (rr_en_no H y0 (by omega) (fun _ => by omega) hn59 (fun h => absurd h c2) (fun _ => by rw [ab3]; decide))))
    · have ep : opn I0 m P1 123 dp = (false, rfs P1) := by unfold opn nd; rw [if_neg h5, if_neg c1]
      rw [ep, if_neg Bool.false_ne_true]
      refine hno _ rfl (fun hi h => ?_)
      rw [pk_tx H eR, chA_at hi] at c1
      exact absurd h c1
end EQ11
