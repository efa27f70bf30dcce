/-! THE TWO READERS: statements, bodies, the whole text -/
section EQ12
variable {I0 : pd_I} {tx : Nat → Int32} {P P' P0 P1 P2 P3 P4 P5 P6 Pa : pd_P} {Q Q' Q0 Q1 Q2 Q2x Q3 Q4 Q5 Q6 Qa X : pq} {m i dp t : Nat} {b b1 b2 w : Bool} {r r' c s mk nx : Int32} {e e1 u : pd_P → Bool × pd_P} {bd st : pd_P → pd_P}
theorem st_c (H : Tx I0 m tx) (hdp : dp ≤ 5) (he : ∀ P Q, Pre m P Q → qd Q = Int32.ofNat dp → rk (qab Q) < 1 → qab Q ≠ 8 → EC I0 tx m P Q (e P)) (he1 : dp < 5 → ∀ P Q, Pre m P Q → qd Q = Int32.ofNat (dp + 1) → rk (qab Q) < 1 → qab Q ≠ 8 → EC I0 tx m P Q (e1 P)) (hbd : dp < 5 → ∀ P Q, Pre m P Q → qd Q = Int32.ofNat (dp + 1) → (Fq Q (qs Q)).2 = [] → BC I0 tx m P Q (bd P)) (hbs : stk bd) (hp : Pre m P Q) (hd : qd Q = Int32.ofNat dp) (hty : (Fq Q (qs Q)).2 = []) : SC tx m P Q (stOf I0 m dp e e1 bd P) := by
  have hm := H.m
  have x1 := hp.b1
  have x0 := hp.i
  obtain ⟨x, hx, hpx⟩ := pk_nat (P := P) H
  unfold stOf
  rcases svt x hx with ⟨s1, s2, s3⟩ | ⟨s1, s0, s2, s3, s4, s5, s6⟩ | ⟨s1, s0, s2, s3, s4, s5, s6, s7⟩
  · rw [← hpx] at s1 s2 s3
    rw [if_pos s1]
    by_cases c1 : pk I0 m P = 118
    · rw [if_pos c1]; exact rows_c H hdp he he1 hp hd hty c1
    · rw [if_neg c1]
      by_cases c2 : pk I0 m P = 63
      · rw [if_pos c2]
        have h9 := cond_c (c := 63) (mk := 2) false H hdp (Or.inl ⟨rfl, rfl, rfl⟩) he hbd hbs hp hd hty c2
        rw [if_neg Bool.false_ne_true] at h9
        exact h9
      · rw [if_neg c2]
        by_cases c3 : pk I0 m P = 64
        · rw [if_pos c3]
          have h9 := cond_c (c := 64) (mk := 3) true H hdp (Or.inr ⟨rfl, rfl, rfl⟩) he hbd hbs hp hd hty c3
          rw [if_pos rfl] at h9
          exact h9
        · rw [if_neg c3]
          by_cases c4 : pk I0 m P = 33
          · rw [if_pos c4]; exact write_c H he hp hd hty c4
          · rw [if_neg c4]
            by_cases c5 : pk I0 m P = 87
            · rw [if_pos c5]
              exact one_c (s := 8) (hi := 49) (o := 21) (op := 23) (k0 := 2) H hp hty c5 (by decide) (Or.inl ⟨rfl, rfl, rfl, rfl, rfl, rfl⟩)
            · rw [if_neg c5]
              by_cases c6 : pk I0 m P = 83
              · rw [if_pos c6]
                exact one_c (s := 8) (hi := 49) (o := 22) (op := 24) (k0 := 2) H hp hty c6 (by decide) (Or.inr (Or.inl ⟨rfl, rfl, rfl, rfl, rfl, rfl⟩))
              · rw [if_neg c6]
                by_cases c7 : pk I0 m P = 80
                · rw [if_pos c7]
                  exact one_c (s := 9) (hi := 51) (o := 23) (op := 25) (k0 := 4) H hp hty c7 (by decide) (Or.inr (Or.inr ⟨rfl, rfl, rfl, rfl, rfl, rfl⟩))
                · rw [if_neg c7]
                  by_cases c8 : pk I0 m P = 38
                  · rw [if_pos c8]; exact both_c H hdp hbd hp hd hty c8
                  · rw [if_neg c8]
                    left
                    refine ⟨rfl, hp.i, ?_⟩
                    show RR tx m 0 (pA P) Q (.inl (pA P))
                    refine rr_st_no H hp.i (by omega) (fun hi => ?_)
                    rw [pk_tx H hp.r, chA_at hi] at s2 s3 c1 c2 c3 c4 c5 c6 c7 c8
                    rw [qst_v s2 s3, if_neg c1, if_neg c4, if_neg c2, if_neg c3, if_neg c8, if_neg c5, if_neg c6, if_neg c7]
  · rw [← hpx] at s1 s2 s3 s4 s5 s6
    rw [if_neg s1, s3, s6]
    have h0 : pk I0 m P ≠ 0 := by intro h; rw [h] at s2; exact absurd s2 (by decide)
    refine set_c H he hp hd hty rfl h0 s5 ?_
    rw [← s6]
    unfold qst
    rw [if_pos s2]
  · rw [← hpx] at s1 s2 s3 s4 s5 s6 s7
    rw [if_neg s1, s4, s7]
    have h0 : pk I0 m P ≠ 0 := by intro h; rw [h] at s3; exact absurd s3 (by decide)
    refine set_c H he hp hd hty rfl h0 s6 ?_
    rw [← s7]
    unfold qst
    rw [if_neg (by rw [s2]; decide), if_pos s3]
theorem stOf_r (h : pR P = true) : stOf I0 m dp e e1 bd P = rfs (sts P) := by
  unfold stOf
  rw [pk_r h, if_pos sv_0, if_neg (by decide), if_neg (by decide), if_neg (by decide), if_neg (by decide), if_neg (by decide), if_neg (by decide), if_neg (by decide), if_neg (by decide)]
theorem bodyL_r {f : Nat} (h : pR P = true) : bodyL I0 m st f P = P := by
  cases f with
  | zero => rfl
  | succ f => unfold bodyL; rw [pk_r h, if_neg (by decide)]
theorem Sta.trans (h1 : Sta m P Q P3 Q3) (hA : pA P3 < m) (hm : m ≤ 48) (h2 : Sta m (adv P3) Q3 P5 Q5) : Sta m P Q P5 Q5 := by
  have e1 : pA (adv P3) = pA P3 + 1 := pA_adv (by omega)
  have i1 := h1.i
  have i2 := h2.i
  have g1 := h1.gr
  have g2 := h2.gr
  rw [pN_adv] at g2
  have s1 := h1.s
  have s2 := h2.s
  have sg : Seg P Q P5 Q5 := h1.seg.trans (h2.seg.same0 rfl rfl rfl rfl pN_adv.symm pO_adv.symm pV_adv.symm (fun k => by rw [pW_adv] at k; exact k))
  have k1 := h1.ctx.h
  refine ⟨h2.pre, ⟨h2.ctx.h.trans k1, fun j hj => ?_, fun j hj => ?_, h2.ctx.d.trans h1.ctx.d⟩, h2.t.trans h1.t, by omega, by omega, by omega, sg, h2.ty, ?_⟩
  · rw [h2.ctx.o j (by omega), h1.ctx.o j hj]
  · rw [h2.ctx.f j (by omega), h1.ctx.f j hj]
  · rw [(h2.seg.fr _ s1).1]; exact h1.fst
theorem body_c (H : Tx I0 m tx) (hst : ∀ P Q, Pre m P Q → qd Q = Int32.ofNat dp → (Fq Q (qs Q)).2 = [] → SC tx m P Q (st P)) (hsr : ∀ P, pR P = true → pR (st P) = true) (hd : qd Q = Int32.ofNat dp) : ∀ (f : Nat) (P3 : pd_P), SC tx m P Q P3 → SC tx m P Q (bodyL I0 m st f P3) ∧ (pR (bodyL I0 m st f P3) = false → 48 ≤ f + pA P3 → pk I0 m (bodyL I0 m st f P3) ≠ 59) := by
  intro f
  induction f with
  | zero =>
    intro P3 h
    refine ⟨h, fun hr hf => ?_⟩
    show pk I0 m P3 ≠ 59
    have e : pk I0 m P3 = 0 := by
      have hm := H.m
      unfold pk
      split
      · rfl
      · rw [if_pos (by omega)]
    rw [e]; decide
  | succ f ih =>
    intro P3 h
    have hm := H.m
    cases hr3 : pR P3
    · rcases h with ⟨k1, _⟩ | ⟨Q3, hS, hrun⟩
      · rw [hr3] at k1; cases k1
      · have h0 : SC tx m P Q P3 := Or.inr ⟨Q3, hS, hrun⟩
        unfold bodyL
        by_cases c1 : pk I0 m P3 = 59
        · rw [if_pos c1]
          obtain ⟨hA, ht⟩ := pk_at H hr3 c1 (by decide)
          have e1 : pA (adv P3) = pA P3 + 1 := pA_adv (by omega)
          have y1 := hS.pre.b1
          have hgo : ∀ o, RR tx m 0 (pA P3 + 1) Q3 o → RR tx m 0 (pA P) Q o := by
            intro o h
            refine hrun _ (.go hA (nx := 0) (Q' := Q3) ?_ (by decide) (by decide) h)
            rw [ht]
            exact .en (.semi (by omega))
          have hs := hst (adv P3) Q3 (pre_adv hS.pre hA hm) (hS.ctx.d.trans hd) hS.ty
          have h5 : SC tx m P Q (st (adv P3)) := by
            rcases hs with ⟨k1, k2, k3⟩ | ⟨Q5, hT, hrun5⟩
            · left
              rw [e1] at k3
              exact ⟨k1, k2, hgo _ k3⟩
            · right
              rw [e1] at hrun5
              exact ⟨Q5, hS.trans hA hm hT, fun o h => hgo _ (hrun5 _ h)⟩
          obtain ⟨g1, g2⟩ := ih _ h5
          refine ⟨g1, fun k1 k2 => g2 k1 ?_⟩
          cases hr5 : pR (st (adv P3))
          · rcases hs with ⟨k3, _⟩ | ⟨Q5, hT, _⟩
            · rw [hr5] at k3; cases k3
            · have := hT.i
              omega
          · rw [bodyL_r hr5, hr5] at k1; cases k1
        · rw [if_neg c1]
          exact ⟨h0, fun _ _ => c1⟩
    · rw [bodyL_r hr3]
      exact ⟨h, fun k => by rw [hr3] at k; cases k⟩
theorem bc_of {f : pd_P → pd_P} (h : SC tx m P Q P') (h2 : pR P' = false → pk I0 m P' ≠ 59) : BC I0 tx m P Q P' := by
  rcases h with h | ⟨Q', hS, hr⟩
  · exact Or.inl h
  · exact Or.inr ⟨Q', hS, hr, h2 hS.pre.r⟩
theorem cB_stk : ∀ k, stk (cB I0 m k) := by
  intro k P h
  have e : cB I0 m k P = rfs (sts P) := by
    cases k with
    | zero =>
      unfold cB
      rw [stOf_r h]
      exact bodyL_r rfl
    | succ k =>
      unfold cB
      rw [stOf_r h]
      exact bodyL_r rfl
  rw [e]
  exact ⟨rfl, rfl⟩
/-- bodies at every depth -/
theorem cB_c (H : Tx I0 m tx) : ∀ k, k ≤ 5 → ∀ P Q, Pre m P Q → qd Q = Int32.ofNat (5 - k) → (Fq Q (qs Q)).2 = [] → BC I0 tx m P Q (cB I0 m k P) := by
  intro k
  induction k with
  | zero =>
    intro _ P Q hp hd hty
    have hst : ∀ P Q, Pre m P Q → qd Q = Int32.ofNat 5 → (Fq Q (qs Q)).2 = [] → SC tx m P Q (stOf I0 m 5 (cE I0 m (cU I0 m 0)) (fun P => (false, P)) (fun P => P) P) := fun P Q hp hd hty => st_c (dp := 5) H (by omega) (fun P Q hp hd h1 h8 => cEU_c (k := 0) H (by omega) hp hd h1 h8) (fun h => absurd h (by omega)) (fun h => absurd h (by omega)) (fun P h => ⟨rfl, h⟩) hp hd hty
    obtain ⟨g1, g2⟩ := body_c (dp := 5) (P := P) (Q := Q) H hst (fun P h => by rw [stOf_r h]; rfl) hd 48 _ (hst P Q hp hd hty)
    exact bc_of (f := id) g1 (fun h => g2 h (by omega))
  | succ k ih =>
    intro hk P Q hp hd hty
    have e : 4 - k + 1 = 5 - k := by omega
    have e2 : 5 - (k + 1) = 4 - k := by omega
    rw [e2] at hd
    have hst : ∀ P Q, Pre m P Q → qd Q = Int32.ofNat (4 - k) → (Fq Q (qs Q)).2 = [] → SC tx m P Q (stOf I0 m (4 - k) (cE I0 m (cU I0 m (k + 1))) (cE I0 m (cU I0 m k)) (cB I0 m k) P) := fun P Q hp hd hty => st_c (dp := 4 - k) H (by omega) (fun P Q hp hd h1 h8 => cEU_c (k := k + 1) H hk hp (by rw [e2]; exact hd) h1 h8) (fun _ P Q hp hd h1 h8 => cEU_c (k := k) H (by omega) hp (by rw [← e]; exact hd) h1 h8) (fun _ P Q hp hd hty => ih (by omega) P Q hp (by rw [← e]; exact hd) hty) (cB_stk k) hp hd hty
    obtain ⟨g1, g2⟩ := body_c (dp := 4 - k) (P := P) (Q := Q) H hst (fun P h => by rw [stOf_r h]; rfl) hd 48 _ (hst P Q hp hd hty)
    exact bc_of (f := id) g1 (fun h => g2 h (by omega))
end EQ12
/-- the code of one procedure: the class's N orders, the reference's n -/
abbrev Cok (c a x oC vC : Nat → Int32) (N n : Nat) : Prop := (Cg c a x oC vC n 0 n) ∧ (N = (ft c a n).1) ∧ (N ≤ 49) ∧ (1 ≤ n) ∧ (n ≤ 49) ∧ (nE (c 0)) ∧ (c (n - 1) = 30) ∧ (Cg c a x oC vC (n - 1) 0 (n - 1))
theorem Cok.g {c a x oC vC : Nat → Int32} {N n : Nat} (ih : Cok c a x oC vC N n) : Cg c a x oC vC n 0 n := ih.1
theorem Cok.eN {c a x oC vC : Nat → Int32} {N n : Nat} (ih : Cok c a x oC vC N n) : N = (ft c a n).1 := ih.2.1
theorem Cok.N9 {c a x oC vC : Nat → Int32} {N n : Nat} (ih : Cok c a x oC vC N n) : N ≤ 49 := ih.2.2.1
theorem Cok.n1 {c a x oC vC : Nat → Int32} {N n : Nat} (ih : Cok c a x oC vC N n) : 1 ≤ n := ih.2.2.2.1
theorem Cok.n9 {c a x oC vC : Nat → Int32} {N n : Nat} (ih : Cok c a x oC vC N n) : n ≤ 49 := ih.2.2.2.2.1
theorem Cok.f {c a x oC vC : Nat → Int32} {N n : Nat} (ih : Cok c a x oC vC N n) : nE (c 0) := ih.2.2.2.2.2.1
theorem Cok.l {c a x oC vC : Nat → Int32} {N n : Nat} (ih : Cok c a x oC vC N n) : c (n - 1) = 30 := ih.2.2.2.2.2.2.1
theorem Cok.g2 {c a x oC vC : Nat → Int32} {N n : Nat} (ih : Cok c a x oC vC N n) : Cg c a x oC vC (n - 1) 0 (n - 1) := ih.2.2.2.2.2.2.2
/-- both read one text -/
theorem read_c {I I0 : pd_I} {c m : Nat} {tx : Nat → Int32} (H : Tx (mm_u I0 c 4 0) m tx) : ∃ ou, RR tx m 0 0 (q0 I) ou ∧
    ((∃ p, ou = .inl p ∧ p ≤ m ∧ pR (rdP I0 c m) = true ∧ pA (rdP I0 c m) = p) ∨ (∃ Qd, ou = .inr Qd ∧ pR (rdP I0 c m) = false ∧ pW (rdP I0 c m) = qm Qd ∧ pS (rdP I0 c m) = qn Qd ∧ qs Qd ≤ 48 ∧ (pW (rdP I0 c m) = false → Cok (cq (qem Qd 30 0)) (aq (qem Qd 30 0)) (xq (qem Qd 30 0)) (pO (rdP I0 c m)) (pV (rdP I0 c m)) (pN (rdP I0 c m)) (qs Qd + 1)))) := by
  have hm := H.m
  have hp : Pre m (rd0 I0 c) (q0 I) := ⟨rfl, Nat.zero_le _, rfl, rfl, Nat.le_refl _, Nat.le_refl _, Nat.le_refl _, rfl⟩
  have hB := cB_c H 5 (Nat.le_refl _) (rd0 I0 c) (q0 I) hp rfl rfl
  have a0 : pA (rd0 I0 c) = 0 := rfl
  have n0 : pN (rd0 I0 c) = 0 := rfl
  have t0 : qh (q0 I) = 0 := rfl
  have s0 : qs (q0 I) = 0 := rfl
  unfold rdP
  generalize cB (mm_u I0 c 4 0) m 5 (rd0 I0 c) = P' at *
  rcases hB with ⟨k1, k2, k3⟩ | ⟨Q', hS, hrun, hn59⟩
  · refine ⟨.inl (pA P'), k3, Or.inl ⟨pA P', rfl, k2, ?_, ?_⟩⟩
    · rw [pR_add]; split; rfl; exact k1
    · rw [pA_add]; split; rfl; rfl
  · rw [a0] at hrun
    have y0 := hS.pre.i
    have y1 := hS.pre.b1
    have y3 := hS.pre.b3
    have y4 := hS.ctx.h
    have y5 := hS.s
    rw [t0] at y4
    have ab : qab Q' = 0 := by unfold qab; rw [if_pos y4]
    by_cases hA : pA P' < m
    · rw [if_pos hA]
      refine ⟨.inl (pA P'), hrun _ ?_, Or.inl ⟨pA P', rfl, y0, by rw [pR_add]; rfl, by rw [pA_add]; rfl⟩⟩
      rw [pk_tx H hS.pre.r] at hn59
      exact rr_en_no H y0 (by omega) (fun h => by rw [chA_at hA] at h; exact absurd h (tx_0 H hA)) hn59 (fun _ => by rw [ab]; decide) (fun _ => by rw [ab]; decide)
    · rw [if_neg hA]
      have em : pA P' = m := by omega
      refine ⟨.inr Q', hrun _ ?_, Or.inr ⟨Q', rfl, by rw [pR_add]; exact hS.pre.r, by rw [pW_add]; exact hS.pre.w, by rw [pS_add]; exact hS.pre.c, by omega, fun hw => ?_⟩⟩
      · have tz : RT (chA tx m (pA P')) 3 Q' 10 Q' := by
          have e0 : chA tx m (pA P') = 0 := by unfold chA; rw [if_neg hA]
          rw [e0]
          have := RE.zero (Q := Q') (by omega)
          rw [if_pos y4] at this
          exact .en this
        exact .dn y0 tz (by omega)
      · have l1 : pN P' < 49 := by omega
        obtain ⟨sgE, tyE⟩ := Seg.fin hS.pre.n l1 hS.ty
        have sg := hS.seg.trans sgE
        have e1 : qs (qem Q' 30 0) = qs Q' + 1 := em_s
        refine ⟨?_, ?_, by rw [pN_add l1]; omega, by omega, by omega, ?_, ?_, ?_⟩
        · have := sg.gd hw
          rw [e1, s0] at this
          exact this
        · have := sg.n
          rw [e1] at this
          exact this
        · have h9 := hS.fst
          rw [s0] at h9 y5
          rw [(sgE.fr 0 y5).1]
          exact h9
        · rw [Nat.add_sub_cancel, cq_em, up_eq]
        · have k2 := (hS.seg.gd (sgE.wm hw)).congr (Nat.le_refl _) (fun j hj => (sgE.fr j hj).1) (fun j hj => Or.inl (sgE.fr j hj).2.1) (fun j _ hj => (sgE.fr j hj).2) (fun z _ hz => sgE.fc z (by rw [hS.seg.n]; exact hz)) (Nat.le_refl _)
          rw [s0] at k2
          rw [Nat.add_sub_cancel]
          exact k2
