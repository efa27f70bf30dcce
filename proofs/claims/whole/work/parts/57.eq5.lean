/-! THE TWO READERS: units, all of them -/
section EQ5
variable {I0 : pd_I} {tx : Nat → Int32} {P P' P0 P1 P2 P3 P4 P5 : pd_P} {Q Q' Q0 Q1 Q2 Q2x Q3 Q4 : pq} {m i dp : Nat} {b b1 b2 : Bool} {r r' c s mk : Int32} {e u : pd_P → Bool × pd_P}
/-- the characters, one by one -/
theorem svt : ∀ x : Nat, x < 127 → (sv (Int32.ofNat x) < 0 ∧ iW (Int32.ofNat x) = false ∧ iX (Int32.ofNat x) = false) ∨ (¬ (sv (Int32.ofNat x) < 0) ∧ isD (Int32.ofNat x) = false ∧ iW (Int32.ofNat x) = true ∧ sv (Int32.ofNat x) = Int32.ofNat x - 97 ∧ isR (Int32.ofNat x - 97) = false ∧ (Int32.ofNat x - 97).toNatClampNeg < 7 ∧ Int32.ofNat x - 97 = Int32.ofNat (Int32.ofNat x - 97).toNatClampNeg) ∨ (¬ (sv (Int32.ofNat x) < 0) ∧ isD (Int32.ofNat x) = false ∧ iW (Int32.ofNat x) = false ∧ iX (Int32.ofNat x) = true ∧ sv (Int32.ofNat x) = 4 + Int32.ofNat x - 114 ∧ isR (4 + Int32.ofNat x - 114) = true ∧ (4 + Int32.ofNat x - 114).toNatClampNeg < 7 ∧ 4 + Int32.ofNat x - 114 = Int32.ofNat (4 + Int32.ofNat x - 114).toNatClampNeg) := by
  decide +kernel
theorem wd1 {t : List Nat} : wd 1 t = 1 ∧ wd 2 t = 1 := ⟨rfl, rfl⟩
theorem tyS1 {a : Int32} {t : List Nat} : tyS 1 a t = tg false :: t := rfl
theorem tyS2 {a : Int32} {t : List Nat} : tyS 2 a t = tg (isR a) :: t := rfl
theorem bnd_leaf {o a : Int32} (hp : Pre m P Q) (hi : pA P < m) (hm : m ≤ 48) : bnd (qop (qem Q o a) b) := by
  have h1 := hp.b1
  have h2 := hp.b2
  exact ⟨show qs Q + 1 + qh Q ≤ 64 by omega, show qt Q + 1 ≤ 63 by omega⟩
theorem rr_un (H : Tx I0 m tx) (hp : Pre m P Q) (hi : pA P < m) (hc : tx (pA P) = c) (hD : isD c = false) (he : qun c Q = (r, Q')) (h0 : 0 ≤ r) (h1 : r ≠ 10) : ∀ o, RR tx m r (pA P + 1) Q' o → RR tx m 1 (pA P) Q o := by
  intro o h
  have t : RT (tx (pA P)) 1 Q (qun c Q).1 (qun c Q).2 := by
    rw [hc]
    exact .un (by rw [← hc]; exact tx_0 H hi) hD (bnd_leaf hp hi H.m)
  rw [he] at t
  exact .go hi t h0 h1 h
theorem rr_un_no (H : Tx I0 m tx) (hp : Pre m P Q) (hD : pA P < m → isD (tx (pA P)) = false) (he : pA P < m → (qun (tx (pA P)) Q).1 = -1) : RR tx m 1 (pA P) Q (.inl (pA P)) := by
  by_cases hi : pA P < m
  · have t : RT (tx (pA P)) 1 Q (qun (tx (pA P)) Q).1 (qun (tx (pA P)) Q).2 := .un (tx_0 H hi) (hD hi) (bnd_leaf hp hi H.m)
    rw [he hi] at t
    refine .no hp.i (Q' := (qun (tx (pA P)) Q).2) ?_
    unfold chA
    rw [if_pos hi]
    exact t
  · have e : pA P = m := by have := hp.i; omega
    rw [e]
    exact .out (by decide) (by decide)
/-- the digits of both -/
theorem numL_dg (H : Tx I0 m tx) : ∀ (f : Nat) (v : Int32) (P : pd_P), pR P = false → pA P ≤ m → (numL I0 m f v P).1 = (dgL tx m f v (pA P)).1 ∧ pA (numL I0 m f v P).2 = (dgL tx m f v (pA P)).2 ∧ pR (numL I0 m f v P).2 = pR P ∧ pW (numL I0 m f v P).2 = pW P ∧ pS (numL I0 m f v P).2 = pS P ∧ pN (numL I0 m f v P).2 = pN P ∧ pO (numL I0 m f v P).2 = pO P ∧ pV (numL I0 m f v P).2 = pV P := by
  intro f
  induction f with
  | zero => intro v P _ _; exact ⟨rfl, rfl, rfl, rfl, rfl, rfl, rfl, rfl⟩
  | succ f ih =>
    intro v P hr hi
    by_cases hD : isD (pk I0 m P) = true
    · have h0 : pk I0 m P ≠ 0 := by intro h; rw [h] at hD; exact absurd hD (by decide)
      obtain ⟨hA, ht⟩ := pk_at H hr rfl h0
      have eA : pA (adv P) = pA P + 1 := pA_adv (by have := H.m; omega)
      have ed : dg I0 m P 57 = (pk I0 m P - 48, adv P) := by
        unfold dg
        unfold isD at hD
        by_cases k1 : pk I0 m P < 48
        · rw [if_pos k1] at hD; cases hD
        · rw [if_neg k1] at hD ⊢
          by_cases k2 : 57 < pk I0 m P
          · rw [if_pos k2] at hD; cases hD
          · rw [if_neg k2]
      have e1 : numL I0 m (f + 1) v P = numL I0 m f (v * 10 + (pk I0 m P - 48)) (adv P) := by
        rw [numL, if_pos hD, ed]
      have e2 : dgL tx m (f + 1) v (pA P) = dgL tx m f (v * 10 + (pk I0 m P - 48)) (pA P + 1) := by
        rw [dgL, if_pos ⟨hA, by rw [ht]; exact hD⟩, ht]
        congr 1
        rw [Int32.sub_eq_add_neg, Int32.sub_eq_add_neg, Int32.add_assoc]
      rw [e1, e2]
      obtain ⟨i1, i2, i3, i4, i5, i6, i7, i8⟩ := ih (v * 10 + (pk I0 m P - 48)) (adv P) (by rw [pR_adv]; exact hr) (by rw [eA]; omega)
      rw [eA] at i1 i2
      exact ⟨i1, i2, by rw [i3, pR_adv], by rw [i4, pW_adv], by rw [i5, pS_adv], by rw [i6, pN_adv], by rw [i7, pO_adv], by rw [i8, pV_adv]⟩
    · have e1 : numL I0 m (f + 1) v P = (v, P) := by rw [numL, if_neg hD]
      have e2 : dgL tx m (f + 1) v (pA P) = (v, pA P) := by
        rw [dgL, if_neg]
        rintro ⟨k1, k2⟩
        rw [pk_tx H hr] at hD
        unfold chA at hD
        rw [if_pos k1] at hD
        exact hD k2
      rw [e1, e2]
      exact ⟨rfl, rfl, rfl, rfl, rfl, rfl, rfl, rfl⟩
theorem sub_add1 {x y : Int32} (h : y = x + 1) : y - 1 = x := by rw [h, Int32.add_sub_cancel]
/-- a unit -/
theorem unit_c (H : Tx I0 m tx) (hdp : dp ≤ 5) (he : dp < 5 → ∀ P Q, Pre m P Q → qd Q = Int32.ofNat (dp + 1) → rk (qab Q) < 1 → qab Q ≠ 8 → EC I0 tx m P Q (e P)) (hu : dp < 5 → ∀ P Q, Pre m P Q → qd Q = Int32.ofNat (dp + 1) → UC tx m P Q (u P)) (hp : Pre m P Q) (hd : qd Q = Int32.ofNat dp) : UC tx m P Q (unitOf I0 m dp e u P) := by
  have hm := H.m
  obtain ⟨x, hx, hpx⟩ := pk_nat (P := P) H
  have h0s : ∀ c : Int32, pk I0 m P = c → c ≠ 0 → pA P < m ∧ tx (pA P) = c := fun c h1 h2 => pk_at H hp.r h1 h2
  have eA : pA P < m → pA (adv P) = pA P + 1 := fun h => pA_adv (by omega)
  unfold unitOf
  rcases svt x hx with ⟨s1, s2, s3⟩ | ⟨s1, s0, s2, s3, s4, s5, s6⟩ | ⟨s1, s0, s2, s3, s4, s5, s6, s7⟩
  · rw [← hpx] at s1 s2 s3
    rw [if_pos s1]
    by_cases hD : isD (pk I0 m P) = true
    · rw [if_pos hD]
      right
      have h0 : pk I0 m P ≠ 0 := by intro h; rw [h] at hD; exact absurd hD (by decide)
      obtain ⟨hA, ht⟩ := h0s _ rfl h0
      obtain ⟨i1, i2, i3, i4, i5, i6, i7, i8⟩ := numL_dg H 3 0 P hp.r hp.i
      have hD2 : isD (tx (pA P)) = true := by rw [ht]; exact hD
      have hgt : pA P < (dgL tx m 3 0 (pA P)).2 := by
        have e : dgL tx m 3 0 (pA P) = dgL tx m 2 (0 * 10 + tx (pA P) - 48) (pA P + 1) := by rw [dgL, if_pos ⟨hA, hD2⟩]
        rw [e]
        have := (dgL_i (m := m) (tx := tx) 2 (0 * 10 + tx (pA P) - 48) (pA P + 1)).1
        omega
      have hle := (dgL_i (m := m) (tx := tx) 3 0 (pA P)).2.2 hp.i
      refine ⟨qop (qem Q 1 (dgL tx m 3 0 (pA P)).1) false, ?_, fun o h => ?_⟩
      · show Val m P Q (numb I0 m P) _ false
        unfold numb
        rw [i1]
        exact val_leaf hp (by rw [i2]; exact hgt) (by rw [i2]; exact hle) hm i3 i4 i5 i6 i7 i8 wd1.1 tyS1 (Or.inl (by decide)) (fun _ _ _ _ _ _ h1 h2 => .num h1 h2)
      · have h' : RR tx m 2 (pA (numb I0 m P)) (ovr (qop (qem Q 1 (dgL tx m 3 0 (pA P)).1) false)) o := h
        unfold numb at h'
        rw [pA_add, i2] at h'
        exact .dig hA hD2 (bnd_leaf hp hA hm) h'
    · rw [if_neg hD]
      have hDf : isD (pk I0 m P) = false := by
        cases h : isD (pk I0 m P)
        · rfl
        · exact absurd h hD
      have hDt : pA P < m → isD (tx (pA P)) = false := fun hi => by
        rw [pk_tx H hp.r] at hDf
        unfold chA at hDf
        rw [if_pos hi] at hDf
        exact hDf
      by_cases c1 : pk I0 m P = 118
      · rw [if_pos c1]
        obtain ⟨hA, ht⟩ := h0s _ c1 (by decide)
        have eu : qun 118 Q = (6, Q) := by
          rw [c1] at s2 s3
          unfold qun
          rw [s2, s3, if_neg (by decide), if_neg (by decide), if_pos rfl]
        have hgo := rr_un H hp hA ht (by rw [← c1]; exact hDf) eu (by decide) (by decide)
        rcases row_c (s := 6) (mk := 5) H (Or.inl ⟨rfl, rfl⟩) hdp he (pre_adv hp hA hm) hd with ⟨k1, k2, k3⟩ | ⟨P3, Q3, b, Q2x, k0, hv, hR, k1, k2, k3, k4⟩
        · left
          rw [eA hA] at k3
          refine ⟨by rw [pR_add]; exact k1, by rw [pA_add]; exact k2, ?_⟩
          show RR tx m 1 (pA P) Q (.inl (pA (add _ _ _)))
          rw [pA_add]
          exact hgo _ k3
        · right
          rw [eA hA] at k0 k4
          refine ⟨qop (qem (qwh (qof Q3)) 3 0) false, ?_, fun o h => ?_⟩
          · show Val m P Q (add (rowP I0 m dp e (adv P)) 5 0) _ false
            rw [k3]
            exact val_row hp k0 hm (Int32.add_sub_cancel _ _) hv k1
          · have h' : RR tx m 2 (pA (add (rowP I0 m dp e (adv P)) 5 0)) (ovr (qop (qem (qwh (qof Q3)) 3 0) false)) o := h
            have y0 := hv.pre.i
            have y1 := hv.pre.b1
            have y2 := hv.pre.b2
            have t3 : qt Q3 = qt Q + 1 := hv.t
            have h3 : qh Q3 = qh Q + 1 := hv.ctx.h
            rw [pA_add, k3, pA_adv (by rw [pA_add, pA_ni]; omega), pA_add, pA_ni] at h'
            obtain ⟨r1, r2⟩ := hR.ok
            refine hgo _ (k4 _ (.go k1 (nx := 2) (Q' := ovr (qop (qem (qwh (qof Q3)) 3 0) false)) ?_ (by decide) (by decide) h'))
            rw [k2, ← r2]
            refine .row r1 (by rw [r2, hv.ctx.ab, qab_pu]) ?_
            rw [r2]
            exact ⟨by omega, by omega, by omega, by omega⟩
      · rw [if_neg c1]
        by_cases c2 : pk I0 m P = 40
        · rw [if_pos c2]
          obtain ⟨hA, ht⟩ := h0s _ c2 (by decide)
          rw [c2] at s2 s3
          have eu : qun 40 Q = qpd Q 6 := by
            unfold qun
            rw [s2, s3, if_neg (by decide), if_neg (by decide), if_neg (by decide), if_pos rfl]
          by_cases h5 : 5 ≤ dp
          · have ep : opn I0 m P 40 dp = (false, rfs P) := by unfold opn; rw [if_pos h5]
            left
            unfold parU
            rw [ep, if_neg Bool.false_ne_true]
            exact ⟨rfl, hp.i, rr_un_no H hp hDt (fun _ => by rw [ht, eu]; exact qpd_no hd (by omega))⟩
          · have ep : opn I0 m P 40 dp = (true, adv P) := by unfold opn nd; rw [if_neg h5, if_pos c2]
            unfold parU
            rw [ep, if_pos rfl]
            have hgo := rr_un H hp hA ht (by rw [← c2]; exact hDf) (eu.trans (qpd_ok hd (by omega) (by decide))) (show (0 : Int32) ≤ 1 by decide) (show (1 : Int32) ≠ 10 by decide)
            have pre := pre_push (mk := 6) (dd := qd Q + 1) hp hA hm
            obtain ⟨hE, hEn⟩ := he (by omega) _ _ pre (by show qd Q + 1 = _; rw [hd, pd_suc]) (by rw [qab_pu]; decide) (by rw [qab_pu]; decide)
            rw [eA hA] at hEn
            show UC tx m P Q ((e (adv P)).1, (nd I0 m (e (adv P)).2 41).2)
            cases hr : pR (e (adv P)).2
            · obtain ⟨Q2x, Q3, hv, hR, hh, hrun⟩ := hE.val hr
              rw [eA hA] at hrun
              have y0 := hv.pre.i
              have y1 := hv.pre.b1
              have y2 := hv.pre.b2
              have t3 : qt Q3 = qt Q + 1 := hv.t
              have h3 : qh Q3 = qh Q + 1 := hv.ctx.h
              by_cases hc2 : pk I0 m (e (adv P)).2 = 41
              · right
                obtain ⟨hA2, ht2⟩ := pk_at H hr hc2 (by decide)
                have en : nd I0 m (e (adv P)).2 41 = (true, adv (e (adv P)).2) := by unfold nd; rw [if_pos hc2]
                rw [en]
                refine ⟨qof Q3, val_par hp hA hm (Int32.add_sub_cancel _ _) hv hA2, fun o h => ?_⟩
                have h' : RR tx m 2 (pA (adv (e (adv P)).2)) (ovr (qof Q3)) o := h
                rw [pA_adv (by omega)] at h'
                obtain ⟨r1, r2⟩ := hR.ok
                refine hgo _ (hrun _ (.go hA2 (nx := 2) (Q' := ovr (qof Q3)) ?_ (by decide) (by decide) h'))
                rw [ht2, ← r2]
                refine .par r1 (by rw [r2, hv.ctx.ab, qab_pu]) ?_
                rw [r2]
                exact ⟨by omega, by omega, by omega, by omega⟩
              · left
                have en : nd I0 m (e (adv P)).2 41 = (false, rfs (e (adv P)).2) := by unfold nd; rw [if_neg hc2]
                rw [en]
                refine ⟨rfl, hv.pre.i, ?_⟩
                show RR tx m 1 (pA P) Q (.inl (pA (e (adv P)).2))
                by_cases hk : rk (pk I0 m (e (adv P)).2) = 0
                · rw [pk_tx H hr] at hk hc2
                  exact hgo _ (hrun _ (rr_cl_no hR hv.pre.i (mk := 6) (by rw [hv.ctx.ab, qab_pu]) (by omega) hk (fun _ => by decide) (fun h => absurd h hc2) (fun _ h => by rcases h with h | h <;> exact absurd h (by decide)) (fun _ => by decide)))
                · exact hgo _ (hEn hr hk)
            · left
              rcases hE with ⟨_, k2, k3⟩ | ⟨_, _, hv, _⟩
              · obtain ⟨n1, n2⟩ := nd_2 (I0 := I0) (m := m) (P := (e (adv P)).2) (y := 41) (by decide) hr
                refine ⟨n2, by show pA (nd I0 m (e (adv P)).2 41).2 ≤ m; rw [n1]; exact k2, ?_⟩
                show RR tx m 1 (pA P) Q (.inl (pA (nd I0 m (e (adv P)).2 41).2))
                rw [n1]
                rw [eA hA] at k3
                exact hgo _ k3
              · have := hv.pre.r
                rw [hr] at this; cases this
        · rw [if_neg c2]
          by_cases c3 : pk I0 m P = 35
          · rw [if_pos c3]
            obtain ⟨hA, ht⟩ := h0s _ c3 (by decide)
            rw [c3] at s2 s3
            have eu : qun 35 Q = qpd Q 8 := by
              unfold qun
              rw [s2, s3, if_neg (by decide), if_neg (by decide), if_neg (by decide), if_neg (by decide), if_pos rfl]
            by_cases h5 : 5 ≤ dp
            · have ep : opn I0 m P 35 dp = (false, rfs P) := by unfold opn; rw [if_pos h5]
              left
              unfold whU
              rw [ep, if_neg Bool.false_ne_true]
              exact ⟨rfl, hp.i, rr_un_no H hp hDt (fun _ => by rw [ht, eu]; exact qpd_no hd (by omega))⟩
            · have ep : opn I0 m P 35 dp = (true, adv P) := by unfold opn nd; rw [if_neg h5, if_pos c3]
              unfold whU
              rw [ep, if_pos rfl]
              have hgo := rr_un H hp hA ht (by rw [← c3]; exact hDf) (eu.trans (qpd_ok hd (by omega) (by decide))) (show (0 : Int32) ≤ 1 by decide) (show (1 : Int32) ≠ 10 by decide)
              have pre := pre_push (mk := 8) (dd := qd Q + 1) hp hA hm
              have hU := hu (by omega) _ _ pre (by show qd Q + 1 = _; rw [hd, pd_suc])
              show UC tx m P Q (false, if (u (adv P)).1 = true then add (u (adv P)).2 6 0 else (u (adv P)).2)
              have nA : pA (if (u (adv P)).1 = true then add (u (adv P)).2 6 0 else (u (adv P)).2) = pA (u (adv P)).2 := by split; exact pA_add; rfl
              have nR : pR (if (u (adv P)).1 = true then add (u (adv P)).2 6 0 else (u (adv P)).2) = pR (u (adv P)).2 := by split; exact pR_add; rfl
              rcases hU with ⟨k1, k2, k3⟩ | ⟨Q3, hv, hrun⟩
              · left
                rw [eA hA] at k3
                refine ⟨by rw [nR]; exact k1, by rw [nA]; exact k2, ?_⟩
                rw [nA]
                exact hgo _ k3
              · right
                rw [eA hA] at hrun
                refine ⟨ov1 Q3, val_wh hp hA hm (Int32.add_sub_cancel _ _) hv, fun o h => ?_⟩
                have h' : RR tx m 2 (pA (if (u (adv P)).1 = true then add (u (adv P)).2 6 0 else (u (adv P)).2)) (ovr (ov1 Q3)) o := h
                rw [nA, ← ovr_8 (by rw [hv.ctx.ab, qab_pu])] at h'
                exact hgo _ (hrun _ h')
          · rw [if_neg c3]
            left
            refine ⟨rfl, hp.i, rr_un_no H hp hDt (fun hi => ?_)⟩
            rw [pk_tx H hp.r] at s2 s3 c1 c2 c3
            unfold chA at s2 s3 c1 c2 c3
            rw [if_pos hi] at s2 s3 c1 c2 c3
            unfold qun
            rw [s2, s3, if_neg (by decide), if_neg (by decide), if_neg c1, if_neg c2, if_neg c3]
  · rw [← hpx] at s1 s2 s3 s4 s5 s6
    rw [if_neg s1]
    have h0 : pk I0 m P ≠ 0 := by intro h; rw [h] at s2; exact absurd s2 (by decide)
    obtain ⟨hA, ht⟩ := h0s _ rfl h0
    right
    refine ⟨qop (qem Q 2 (pk I0 m P - 97)) false, ?_, fun o h => ?_⟩
    · show Val m P Q (add (adv P) 3 (sv (pk I0 m P))) _ (isR (sv (pk I0 m P)))
      rw [s3, s4]
      refine val_leaf hp (by rw [eA hA]; omega) (by rw [eA hA]; omega) hm pR_adv pW_adv pS_adv pN_adv pO_adv pV_adv wd1.2 (by rw [tyS2, s4]) (Or.inl (by decide)) (fun _ _ _ _ _ _ h1 h2 => ?_)
      rw [s6] at h2 ⊢
      exact .ld s5 h1 h2
    · have h' : RR tx m 2 (pA (add (adv P) 3 (sv (pk I0 m P)))) (ovr (qop (qem Q 2 (pk I0 m P - 97)) false)) o := h
      rw [pA_add, eA hA] at h'
      refine rr_un H hp hA ht (by rw [hpx]; exact s0) ?_ (show (0 : Int32) ≤ 2 by decide) (show (2 : Int32) ≠ 10 by decide) _ h'
      unfold qun
      rw [if_pos s2]
  · rw [← hpx] at s1 s2 s3 s4 s5 s6 s7
    rw [if_neg s1]
    have h0 : pk I0 m P ≠ 0 := by intro h; rw [h] at s3; exact absurd s3 (by decide)
    obtain ⟨hA, ht⟩ := h0s _ rfl h0
    right
    refine ⟨qop (qem Q 2 (4 + pk I0 m P - 114)) true, ?_, fun o h => ?_⟩
    · show Val m P Q (add (adv P) 3 (sv (pk I0 m P))) _ (isR (sv (pk I0 m P)))
      rw [s4, s5]
      refine val_leaf hp (by rw [eA hA]; omega) (by rw [eA hA]; omega) hm pR_adv pW_adv pS_adv pN_adv pO_adv pV_adv wd1.2 (by rw [tyS2, s5]) (Or.inl (by decide)) (fun _ _ _ _ _ _ h1 h2 => ?_)
      rw [s7] at h2 ⊢
      exact .ld s6 h1 h2
    · have h' : RR tx m 2 (pA (add (adv P) 3 (sv (pk I0 m P)))) (ovr (qop (qem Q 2 (4 + pk I0 m P - 114)) true)) o := h
      rw [pA_add, eA hA] at h'
      refine rr_un H hp hA ht (by rw [hpx]; exact s0) ?_ (show (0 : Int32) ≤ 2 by decide) (show (2 : Int32) ≠ 10 by decide) _ h'
      unfold qun
      rw [if_neg (by rw [s2]; decide), if_pos s3]
/-- units at every depth -/
theorem cU_c (H : Tx I0 m tx) : ∀ k, k ≤ 5 → ∀ P Q, Pre m P Q → qd Q = Int32.ofNat (5 - k) → UC tx m P Q (cU I0 m k P) := by
  intro k
  induction k with
  | zero =>
    intro _ P Q hp hd
    exact unit_c (dp := 5) H (by omega) (fun h => absurd h (by omega)) (fun h => absurd h (by omega)) hp hd
  | succ k ih =>
    intro hk P Q hp hd
    have e : 4 - k + 1 = 5 - k := by omega
    refine unit_c (dp := 4 - k) H (by omega) (fun _ P Q hp hd h1 h8 => ?_) (fun _ P Q hp hd => ?_) hp (by rw [hd, show 5 - (k + 1) = 4 - k by omega])
    · rw [e] at hd
      exact cE_c (dd := Int32.ofNat (5 - k)) H (ih (by omega)) cU_stk hp h1 h8 hd
    · rw [e] at hd
      exact ih (by omega) P Q hp hd
/-- expressions at every depth -/
theorem cEU_c (H : Tx I0 m tx) {k : Nat} (hk : k ≤ 5) (hp : Pre m P Q) (hd : qd Q = Int32.ofNat (5 - k)) (h1 : rk (qab Q) < 1) (h8 : qab Q ≠ 8) : EC I0 tx m P Q (cE I0 m (cU I0 m k) P) := cE_c (dd := Int32.ofNat (5 - k)) H (cU_c H k hk) cU_stk hp h1 h8 hd
end EQ5
