/-! THE TWO READERS: terms, sums, expressions -/
/-- the text that both read -/
abbrev Tx (I0 : pd_I) (m : Nat) (tx : Nat → Int32) : Prop := (∀ k, k < m → tx k = I0 2 k) ∧ (∀ k, k < m → pd_chr (I0 2 k)) ∧ (m ≤ 48)
theorem Tx.e {I0 : pd_I} {m : Nat} {tx : Nat → Int32} (ih : Tx I0 m tx) : ∀ k, k < m → tx k = I0 2 k := ih.1
theorem Tx.c {I0 : pd_I} {m : Nat} {tx : Nat → Int32} (ih : Tx I0 m tx) : ∀ k, k < m → pd_chr (I0 2 k) := ih.2.1
theorem Tx.m {I0 : pd_I} {m : Nat} {tx : Nat → Int32} (ih : Tx I0 m tx) : m ≤ 48 := ih.2.2
def RF (tx : Nat → Int32) (m : Nat) (s : Int32) (P : pd_P) (Q : pq) (P' : pd_P) : Prop := pR P' = true ∧ pA P' ≤ m ∧ RR tx m s (pA P) Q (.inl (pA P'))
/-- a unit's claim -/
def UC (tx : Nat → Int32) (m : Nat) (P : pd_P) (Q : pq) (r : Bool × pd_P) : Prop := RF tx m 1 P Q r.2 ∨ ∃ Q', Val m P Q r.2 Q' r.1 ∧ ∀ o, RR tx m 2 (pA r.2) (ovr Q') o → RR tx m 1 (pA P) Q o
def TV (j : Int32) (tx : Nat → Int32) (m : Nat) (P : pd_P) (Q : pq) (b : Bool) (P' : pd_P) : Prop := ∃ Q2 Q', Val m P Q P' Q' b ∧ Red j Q2 Q' ∧ qh Q2 ≤ 48 ∧ ∀ o, RR tx m 2 (pA P') Q2 o → RR tx m 1 (pA P) Q o
def TC (j : Int32) (tx : Nat → Int32) (m : Nat) (P : pd_P) (Q : pq) (r : Bool × pd_P) : Prop := RF tx m 1 P Q r.2 ∨ TV j tx m P Q r.1 r.2
section EQ3
variable {I0 : pd_I} {tx : Nat → Int32} {P P' P0 P1 P2 P3 P4 P5 : pd_P} {Q Q' Q0 Q1 Q2 Q3 Q4 : pq} {m : Nat} {b b1 b2 : Bool} {r r' c : Int32}
theorem pk_at (H : Tx I0 m tx) (hr : pR P = false) (hc : pk I0 m P = c) (c0 : c ≠ 0) : pA P < m ∧ tx (pA P) = c := by
  rw [pk_t hr] at hc
  unfold chA at hc
  by_cases k : pA P < m
  · rw [if_pos k] at hc
    exact ⟨k, (H.e _ k).trans hc⟩
  · rw [if_neg k] at hc
    exact absurd hc.symm c0
theorem chr_nat {x : Int32} (h : pd_chr x) : ∃ n, 33 ≤ n ∧ n < 127 ∧ x = Int32.ofNat n := by
  obtain ⟨h1, h2⟩ := h
  have e1 : (33 : Int32).toInt = 33 := by decide
  have e2 : (126 : Int32).toInt = 126 := by decide
  rw [Int32.le_iff_toInt_le, e1] at h1
  rw [Int32.le_iff_toInt_le, e2] at h2
  refine ⟨x.toInt.toNat, by omega, by omega, ?_⟩
  apply Int32.toInt_inj.mp
  rw [Int32.toInt_ofNat_of_lt (by omega)]
  omega
theorem pk_end (H : Tx I0 m tx) (hr : pR P = false) (hi : pA P ≤ m) (hc : pk I0 m P = 0) : pA P = m := by
  rw [pk_t hr] at hc
  unfold chA at hc
  by_cases k : pA P < m
  · rw [if_pos k] at hc
    have := (H.c _ k).1
    rw [hc] at this
    exact absurd this (by decide)
  · omega
theorem pk_nat (H : Tx I0 m tx) : ∃ n, n < 127 ∧ pk I0 m P = Int32.ofNat n := by
  cases hr : pR P
  · rw [pk_t hr]
    unfold chA
    by_cases k : pA P < m
    · rw [if_pos k]
      obtain ⟨n, _, h2, h3⟩ := chr_nat (H.c _ k)
      exact ⟨n, h2, h3⟩
    · rw [if_neg k]; exact ⟨0, by decide, rfl⟩
  · rw [pk_r hr]; exact ⟨0, by decide, rfl⟩
theorem rr_bin (hi : pA P < m) (hc : tx (pA P) = c) (h0 : 0 < rk c) (h1 : rk c ≠ 1) (hR : Red (rk c) Q2 Q3) (hh : qh Q2 ≤ 48) : ∀ o, RR tx m 1 (pA P + 1) (qpu Q3 c) o → RR tx m 2 (pA P) Q2 o := by
  intro o h
  obtain ⟨k1, k2⟩ := hR.ok
  have e : qbi c Q2 = (1, qpu Q3 c) := by unfold qbi; rw [if_neg h1, k2]
  have t : RT (tx (pA P)) 2 Q2 (qbi c Q2).1 (qbi c Q2).2 := by
    rw [hc]
    exact .bi h0 (fun h => absurd h h1) (fun _ => k1) (fun r => by unfold rdc; have := qh_qred (r := r) (qh Q2) Q2; omega)
  rw [e] at t
  exact .go hi t (show (0 : Int32) ≤ 1 by decide) (show (1 : Int32) ≠ 10 by decide) h
theorem rr_cmp (hi : pA P < m) (hc : tx (pA P) = c) (h1 : rk c = 1) (hR : Red 2 Q2 Q3) (hq : rk (qab Q3) ≠ 1) (hh : qh Q2 ≤ 48) : ∀ o, RR tx m 1 (pA P + 1) (qpu Q3 c) o → RR tx m 2 (pA P) Q2 o := by
  intro o h
  obtain ⟨k1, k2⟩ := hR.ok
  have e : qbi c Q2 = (1, qpu Q3 c) := by unfold qbi; rw [if_pos h1, k2, if_neg hq]
  have t : RT (tx (pA P)) 2 Q2 (qbi c Q2).1 (qbi c Q2).2 := by
    rw [hc]
    exact .bi (by rw [h1]; decide) (fun _ => k1) (fun h => absurd h1 h) (fun r => by unfold rdc; have := qh_qred (r := r) (qh Q2) Q2; omega)
  rw [e] at t
  exact .go hi t (show (0 : Int32) ≤ 1 by decide) (show (1 : Int32) ≠ 10 by decide) h
theorem rr_cmpno {i : Nat} (hi : i < m) (hc : tx i = c) (h1 : rk c = 1) (hR : Red 2 Q2 Q3) (hq : rk (qab Q3) = 1) (hh : qh Q2 ≤ 48) : RR tx m 2 i Q2 (.inl i) := by
  obtain ⟨k1, k2⟩ := hR.ok
  have e : qbi c Q2 = (-1, Q3) := by unfold qbi; rw [if_pos h1, k2, if_pos hq]
  have t : RT (chA tx m i) 2 Q2 (qbi c Q2).1 (qbi c Q2).2 := by
    unfold chA
    rw [if_pos hi, hc]
    exact .bi (by rw [h1]; decide) (fun _ => k1) (fun h => absurd h1 h) (fun r => by unfold rdc; have := qh_qred (r := r) (qh Q2) Q2; omega)
  rw [e] at t
  exact .no (by omega) t
/-- two values: the step of all loops -/
theorem bstep {j js o : Int32} {w : Bool} {rr : Bool × pd_P} (h1 : Val m P Q P3 Q3 b1) (hrun : ∀ o, RR tx m 2 (pA P3) Q2 o → RR tx m 1 (pA P) Q o) (hpush : ∀ o, RR tx m 1 (pA P3 + 1) (qpu Q3 c) o → RR tx m 2 (pA P3) Q2 o) (hA : pA P3 < m) (hm : m ≤ 48) (hj : rk c = j) (hj0 : 0 < j) (hjs : j ≤ js) (hlow : rk (qab Q) < j) (hsub : TC js tx m (adv P3) (qpu Q3 c) rr)
    (hw : w = (decide (c = 37) && (b1 || rr.1))) (hbo : w = false → bo c (ba c b1 rr.1) (tg rr.1) (tg b1) o) : TC j tx m P Q (bt c b1 rr.1, add (ni rr.2 w) o 0) ∧ (pR (add (ni rr.2 w) o 0) = false → pA P3 < pA (add (ni rr.2 w) o 0)) ∧ (js = 2 → j = 1 → pR (add (ni rr.2 w) o 0) = false → ∀ c', pA (add (ni rr.2 w) o 0) < m → tx (pA (add (ni rr.2 w) o 0)) = c' → rk c' = 1 → RR tx m 1 (pA P) Q (.inl (pA (add (ni rr.2 w) o 0)))) := by
  have e1 : pA (adv P3) = pA P3 + 1 := pA_adv (by omega)
  rcases hsub with ⟨k1, k2, k3⟩ | ⟨Q2x, Q4, hv, hR, hh, hr⟩
  · rw [e1] at k3
    refine ⟨Or.inl ⟨by show pR (add _ _ _) = true; rw [pR_add, pR_ni]; exact k1, by show pA (add _ _ _) ≤ m; rw [pA_add, pA_ni]; exact k2, ?_⟩, fun h => ?_, fun _ _ h => ?_⟩
    · show RR tx m 1 (pA P) Q (.inl (pA (add _ _ _)))
      rw [pA_add, pA_ni]
      exact hrun _ (hpush _ k3)
    · rw [pR_add, pR_ni, k1] at h; cases h
    · rw [pR_add, pR_ni, k1] at h; cases h
  · rw [e1] at hr
    have hc0 : rk c ≠ 0 := by rw [hj]; intro h; rw [h] at hj0; exact absurd hj0 (by decide)
    have V := val_bin h1 hA hm hv hc0 hw hbo
    have q4 : qab Q4 = c := by rw [hv.ctx.ab, qab_pu]
    have x1 := hv.pre.b1
    have x2 := hv.pre.b2
    have x3 := hv.pre.i
    have x4 : qt Q4 = qt Q3 + 1 := hv.t
    have x5 := h1.t
    have x6 : qh Q4 = qh Q3 + 1 := hv.ctx.h
    have hRed : Red j Q4 (red1 Q4) := .cons (by rw [q4, hj]; exact fun h => Int32.lt_irrefl h) (by omega) (by omega) (by omega) (by omega) (by omega) (.nil (by rw [V.ctx.ab]; exact hlow) (by rw [red1_h]; omega))
    refine ⟨Or.inr ⟨Q2x, red1 Q4, V, Red.trans hjs hR hRed, hh, fun ou h => hrun _ (hpush _ (hr _ ?_))⟩, fun _ => ?_, fun hjs2 hj1 _ c' hi hc' hk => ?_⟩
    · have h' : RR tx m 2 (pA (add (ni rr.2 w) o 0)) Q2x ou := h
      rw [pA_add, pA_ni] at h'
      exact h'
    · rw [pA_add, pA_ni]
      have := hv.i
      omega
    · rw [pA_add, pA_ni] at hi hc' ⊢
      subst hjs2
      exact hrun _ (hpush _ (hr _ (rr_cmpno hi hc' hk hR (by rw [q4, hj, hj1]) hh)))
theorem rk3 (h : c = 42 ∨ c = 47 ∨ c = 37) : rk c = 3 := by rcases h with rfl | rfl | rfl <;> rfl
theorem rk_lt3 (h1 : c ≠ 42) (h2 : c ≠ 47) (h3 : c ≠ 37) : rk c < 3 := by
  unfold rk
  rw [if_neg h1, if_neg h2, if_neg h3]
  split
  · decide
  · split
    · decide
    · split
      · decide
      · split <;> decide
theorem rk_lt2 (h0 : rk c < 3) (h1 : c ≠ 43) (h2 : c ≠ 45) : rk c < 2 := by
  unfold rk at *
  by_cases k1 : c = 42
  · rw [if_pos k1] at h0; exact absurd h0 (by decide)
  · by_cases k2 : c = 47
    · rw [if_neg k1, if_pos k2] at h0; exact absurd h0 (by decide)
    · by_cases k3 : c = 37
      · rw [if_neg k1, if_neg k2, if_pos k3] at h0; exact absurd h0 (by decide)
      · rw [if_neg k1, if_neg k2, if_neg k3, if_neg h1, if_neg h2]
        split
        · decide
        · split <;> decide
theorem rk_0 (h0 : rk c < 2) (h1 : c ≠ 60) (h2 : c ≠ 61) : rk c = 0 := by
  unfold rk at *
  by_cases k1 : c = 42
  · rw [if_pos k1] at h0; exact absurd h0 (by decide)
  · by_cases k2 : c = 47
    · rw [if_neg k1, if_pos k2] at h0; exact absurd h0 (by decide)
    · by_cases k3 : c = 37
      · rw [if_neg k1, if_neg k2, if_pos k3] at h0; exact absurd h0 (by decide)
      · by_cases k4 : c = 43
        · rw [if_neg k1, if_neg k2, if_neg k3, if_pos k4] at h0; exact absurd h0 (by decide)
        · by_cases k5 : c = 45
          · rw [if_neg k1, if_neg k2, if_neg k3, if_neg k4, if_pos k5] at h0; exact absurd h0 (by decide)
          · rw [if_neg k1, if_neg k2, if_neg k3, if_neg k4, if_neg k5, if_neg h1, if_neg h2]
theorem ni_f : ni P false = P := by unfold ni; rw [if_neg (by decide)]
theorem TC.val {j : Int32} {p : Bool × pd_P} (h : TC j tx m P Q p) (hr : pR p.2 = false) : TV j tx m P Q p.1 p.2 := by
  rcases h with ⟨k, _⟩ | h
  · rw [hr] at k; cases k
  · exact h
/-- a unit where no mark 8 stands above -/
theorem UC.tc {p : Bool × pd_P} (h : UC tx m P Q p) (h8 : qab Q ≠ 8) : TC 4 tx m P Q p := by
  rcases h with h | ⟨Q', hv, hr⟩
  · exact Or.inl h
  · have e : ovr Q' = Q' := ovr_no (by rw [hv.ctx.ab]; exact h8)
    rw [e] at hr
    have x1 := hv.pre.b1
    have x3 := hv.pre.i
    have x4 := pA_le p.2
    refine Or.inr ⟨Q', Q', hv, .nil ?_ (by omega), by omega, hr⟩
    unfold rk
    split
    · decide
    · split
      · decide
      · split
        · decide
        · split
          · decide
          · split
            · decide
            · split
              · decide
              · split <;> decide
theorem tloop {u : pd_P → Bool × pd_P} {dd : Int32} (H : Tx I0 m tx) (hu : ∀ P Q, Pre m P Q → qd Q = dd → UC tx m P Q (u P)) (hlow : rk (qab Q) < 3) (hdd : qd Q = dd) : ∀ (f : Nat) (b : Bool) (P3 : pd_P), TC 3 tx m P Q (b, P3) → TC 3 tx m P Q (termL I0 m u f b P3) ∧ (pR (termL I0 m u f b P3).2 = false → 48 ≤ f + pA P3 → rk (pk I0 m (termL I0 m u f b P3).2) < 3) := by
  intro f
  induction f with
  | zero =>
    intro b P3 h
    refine ⟨h, fun hr hf => ?_⟩
    show rk (pk I0 m P3) < 3
    have e : pk I0 m P3 = 0 := by
      have hm := H.m
      unfold pk
      split
      · rfl
      · rw [if_pos (by omega)]
    rw [e]; decide
  | succ f ih =>
    intro b P3 h
    cases hr3 : pR P3
    · obtain ⟨Q2, Q3, hv, hR, hh, hrun⟩ := h.val hr3
      have hm := H.m
      have go : ∀ (c o : Int32) (w : Bool) (bb : Bool), pk I0 m P3 = c → c ≠ 0 → rk c = 3 → w = (decide (c = 37) && (b || (u (adv P3)).1)) → (w = false → bo c (ba c b (u (adv P3)).1) (tg (u (adv P3)).1) (tg b) o) → bt c b (u (adv P3)).1 = bb → TC 3 tx m P Q (termL I0 m u f bb (add (ni (u (adv P3)).2 w) o 0)) ∧ (pR (termL I0 m u f bb (add (ni (u (adv P3)).2 w) o 0)).2 = false → 48 ≤ f + 1 + pA P3 → rk (pk I0 m (termL I0 m u f bb (add (ni (u (adv P3)).2 w) o 0)).2) < 3) := by
        intro c o w bb hc c0 hk hw hbo hbb
        obtain ⟨hA, htx⟩ := pk_at H hr3 hc c0
        have pre := pre_push (mk := c) (dd := qd Q3) hv.pre hA hm
        have hsub := (hu (adv P3) (qpu Q3 c) pre (by rw [← hdd, ← hv.ctx.d]; rfl)).tc (by rw [qab_pu]; intro h8; rw [h8] at hk; exact absurd hk (by decide))
        have hb := bstep hv hrun (rr_bin hA htx (by rw [hk]; decide) (by rw [hk]; decide) (by rw [hk]; exact hR) hh) hA hm hk (by decide) (by decide) hlow hsub hw hbo
        rw [hbb] at hb
        obtain ⟨g1, g2⟩ := ih bb _ hb.1
        refine ⟨g1, fun k1 k2 => g2 k1 ?_⟩
        cases hr5 : pR (add (ni (u (adv P3)).2 w) o 0)
        · have h9 : pA P3 < pA (add (ni (u (adv P3)).2 w) o 0) := hb.2.1 hr5
          omega
        · rw [termL_r hr5] at k1
          rw [hr5] at k1; cases k1
      unfold termL
      by_cases c1 : pk I0 m P3 = 42
      · rw [if_pos c1]
        have := go 42 (if (b || (u (adv P3)).1) = false then 9 else 12) false (b || (u (adv P3)).1) c1 (by decide) rfl (by rfl) (fun _ => by
          left
          refine ⟨rfl, ?_⟩
          cases b <;> cases (u (adv P3)).1 <;> simp [ba, tg, pd_b]) (by rfl)
        rw [ni_f] at this
        exact this
      · rw [if_neg c1]
        by_cases c2 : pk I0 m P3 = 47
        · rw [if_pos c2]
          have := go 47 13 false true c2 (by decide) rfl (by rfl) (fun _ => Or.inr (Or.inr (Or.inr (Or.inl ⟨rfl, rfl, rfl⟩)))) rfl
          rw [ni_f] at this
          exact this
        · rw [if_neg c2]
          by_cases c3 : pk I0 m P3 = 37
          · rw [if_pos c3]
            exact go 37 14 ((u (adv P3)).1 || b) false c3 (by decide) rfl (by cases b <;> cases (u (adv P3)).1 <;> rfl) (fun h9 => by
              refine Or.inr (Or.inr (Or.inr (Or.inr (Or.inl ⟨rfl, ?_, ?_, rfl⟩))))
              · cases hq : (u (adv P3)).1
                · rfl
                · rw [hq] at h9; cases h9
              · cases b
                · rfl
                · rw [Bool.or_true] at h9; cases h9) rfl
          · rw [if_neg c3]
            exact ⟨h, fun _ _ => rk_lt3 c1 c2 c3⟩
    · rw [termL_r hr3]
      exact ⟨h, fun k => by rw [hr3] at k; cases k⟩
/-- a term -/
theorem cT_c {u : pd_P → Bool × pd_P} {dd : Int32} (H : Tx I0 m tx) (hu : ∀ P Q, Pre m P Q → qd Q = dd → UC tx m P Q (u P)) (hp : Pre m P Q) (hlow : rk (qab Q) < 3) (h8 : qab Q ≠ 8) (hdd : qd Q = dd) : TC 3 tx m P Q (cT I0 m u P) ∧ (pR (cT I0 m u P).2 = false → rk (pk I0 m (cT I0 m u P).2) < 3) := by
  have h1 := (hu P Q hp hdd).tc h8
  have h2 : TC 3 tx m P Q ((u P).1, (u P).2) := by
    rcases h1 with h1 | ⟨Q2, Q', hv, hR, hh, hr⟩
    · exact Or.inl h1
    · exact Or.inr ⟨Q2, Q', hv, Red.trans (r := 4) (by decide) hR (.nil (by rw [hv.ctx.ab]; exact hlow) (by have := hv.pre.b1; have := hv.pre.i; have := H.m; omega)), hh, hr⟩
  obtain ⟨g1, g2⟩ := tloop H hu hlow hdd 48 _ _ h2
  exact ⟨g1, fun k => g2 k (by omega)⟩
theorem sloop {u : pd_P → Bool × pd_P} {dd : Int32} (H : Tx I0 m tx) (hu : ∀ P Q, Pre m P Q → qd Q = dd → UC tx m P Q (u P)) (hus : stk (fun P => (u P).2)) (hlow : rk (qab Q) < 2) (hdd : qd Q = dd) : ∀ (f : Nat) (b : Bool) (P3 : pd_P), TC 2 tx m P Q (b, P3) → (pR P3 = false → rk (pk I0 m P3) < 3) → TC 2 tx m P Q (sumL I0 m (cT I0 m u) f b P3) ∧ (pR (sumL I0 m (cT I0 m u) f b P3).2 = false → 48 ≤ f + pA P3 → rk (pk I0 m (sumL I0 m (cT I0 m u) f b P3).2) < 2) := by
  intro f
  induction f with
  | zero =>
    intro b P3 h _
    refine ⟨h, fun hr hf => ?_⟩
    show rk (pk I0 m P3) < 2
    have e : pk I0 m P3 = 0 := by
      have hm := H.m
      unfold pk
      split
      · rfl
      · rw [if_pos (by omega)]
    rw [e]; decide
  | succ f ih =>
    intro b P3 h hn
    cases hr3 : pR P3
    · obtain ⟨Q2, Q3, hv, hR, hh, hrun⟩ := h.val hr3
      have hm := H.m
      have go : ∀ (c o : Int32) (bb : Bool), pk I0 m P3 = c → c ≠ 0 → c ≠ 37 → rk c = 2 → (bo c (ba c b (cT I0 m u (adv P3)).1) (tg (cT I0 m u (adv P3)).1) (tg b) o) → bt c b (cT I0 m u (adv P3)).1 = bb → TC 2 tx m P Q (sumL I0 m (cT I0 m u) f bb (add (cT I0 m u (adv P3)).2 o 0)) ∧ (pR (sumL I0 m (cT I0 m u) f bb (add (cT I0 m u (adv P3)).2 o 0)).2 = false → 48 ≤ f + 1 + pA P3 → rk (pk I0 m (sumL I0 m (cT I0 m u) f bb (add (cT I0 m u (adv P3)).2 o 0)).2) < 2) := by
        intro c o bb hc c0 c37 hk hbo hbb
        obtain ⟨hA, htx⟩ := pk_at H hr3 hc c0
        have pre := pre_push (mk := c) (dd := qd Q3) hv.pre hA hm
        have hct := cT_c H hu pre (by rw [sD_id, qab_pu, hk]; decide) (by rw [sD_id, qab_pu]; intro h8; rw [h8] at hk; exact absurd hk (by decide)) (show qd Q3 = dd by rw [← hdd, ← hv.ctx.d])
        have hb := bstep (w := false) hv hrun (rr_bin hA htx (by rw [hk]; decide) (by rw [hk]; decide) (by rw [hk]; exact hR) hh) hA hm hk (by decide) (by decide) hlow hct.1 (by rw [decide_eq_false c37]; rfl) (fun _ => hbo)
        rw [hbb, ni_f] at hb
        obtain ⟨g1, g2⟩ := ih bb (add (cT I0 m u (adv P3)).2 o 0) hb.1 (fun k => by
          have k' : pR (cT I0 m u (adv P3)).2 = false := by rw [pR_add] at k; exact k
          have := hct.2 k'
          have e : pk I0 m (add (cT I0 m u (adv P3)).2 o 0) = pk I0 m (cT I0 m u (adv P3)).2 := by unfold pk; rw [pR_add, pA_add]
          rw [e]; exact this)
        refine ⟨g1, fun k1 k2 => g2 k1 ?_⟩
        cases hr5 : pR (add (cT I0 m u (adv P3)).2 o 0)
        · have h9 : pA P3 < pA (add (cT I0 m u (adv P3)).2 o 0) := hb.2.1 hr5
          omega
        · rw [sumL_r hr5] at k1
          rw [hr5] at k1; cases k1
      unfold sumL
      by_cases c1 : pk I0 m P3 = 43
      · rw [if_pos c1]
        exact go 43 (if (b || (cT I0 m u (adv P3)).1) = false then 7 else 10) (b || (cT I0 m u (adv P3)).1) c1 (by decide) (by decide) rfl (by
          refine Or.inr (Or.inl ⟨rfl, ?_⟩)
          cases b <;> cases (cT I0 m u (adv P3)).1 <;> simp [ba, tg, pd_b]) (by rfl)
      · rw [if_neg c1]
        by_cases c2 : pk I0 m P3 = 45
        · rw [if_pos c2]
          exact go 45 (if (b || (cT I0 m u (adv P3)).1) = false then 8 else 11) (b || (cT I0 m u (adv P3)).1) c2 (by decide) (by decide) rfl (by
            refine Or.inr (Or.inr (Or.inl ⟨rfl, ?_⟩))
            cases b <;> cases (cT I0 m u (adv P3)).1 <;> simp [ba, tg, pd_b]) (by rfl)
        · rw [if_neg c2]
          exact ⟨h, fun _ _ => rk_lt2 (hn hr3) c1 c2⟩
    · rw [sumL_r hr3]
      exact ⟨h, fun k => by rw [hr3] at k; cases k⟩
/-- a sum -/
theorem cS_c {u : pd_P → Bool × pd_P} {dd : Int32} (H : Tx I0 m tx) (hu : ∀ P Q, Pre m P Q → qd Q = dd → UC tx m P Q (u P)) (hus : stk (fun P => (u P).2)) (hp : Pre m P Q) (hlow : rk (qab Q) < 2) (h8 : qab Q ≠ 8) (hdd : qd Q = dd) : TC 2 tx m P Q (cS I0 m u P) ∧ (pR (cS I0 m u P).2 = false → rk (pk I0 m (cS I0 m u P).2) < 2) := by
  obtain ⟨h1, hn⟩ := cT_c H hu hp (Int32.lt_of_lt_of_le hlow (by decide)) h8 hdd
  have h2 : TC 2 tx m P Q ((cT I0 m u P).1, (cT I0 m u P).2) := by
    rcases h1 with h1 | ⟨Q2, Q', hv, hR, hh, hr⟩
    · exact Or.inl h1
    · exact Or.inr ⟨Q2, Q', hv, Red.trans (r := 3) (by decide) hR (.nil (by rw [hv.ctx.ab]; exact hlow) (by have := hv.pre.b1; have := hv.pre.i; have := H.m; omega)), hh, hr⟩
  obtain ⟨g1, g2⟩ := sloop H hu hus hlow hdd 48 _ _ h2 hn
  exact ⟨g1, fun k => g2 k (by omega)⟩
/-- an expression's claim -/
def EC (I0 : pd_I) (tx : Nat → Int32) (m : Nat) (P : pd_P) (Q : pq) (p : Bool × pd_P) : Prop := TC 1 tx m P Q p ∧ (pR p.2 = false → rk (pk I0 m p.2) ≠ 0 → RR tx m 1 (pA P) Q (.inl (pA p.2)))
theorem pk_nd (h : rk (pk I0 m P) ≠ 0) : pk I0 m P ≠ 0 := by intro k; rw [k] at h; exact h rfl
theorem rk_12 (h : rk c ≠ 0) (h2 : rk c < 2) : rk c = 1 := by
  by_cases k1 : c = 60
  · rw [k1]; rfl
  · by_cases k2 : c = 61
    · rw [k2]; rfl
    · exact absurd (rk_0 h2 k1 k2) h
theorem cE_c {u : pd_P → Bool × pd_P} {dd : Int32} (H : Tx I0 m tx) (hu : ∀ P Q, Pre m P Q → qd Q = dd → UC tx m P Q (u P)) (hus : stk (fun P => (u P).2)) (hp : Pre m P Q) (hlow : rk (qab Q) < 1) (h8 : qab Q ≠ 8) (hdd : qd Q = dd) : EC I0 tx m P Q (cE I0 m u P) := by
  obtain ⟨h1, hn⟩ := cS_c H hu hus hp (Int32.lt_of_lt_of_le hlow (by decide)) h8 hdd
  have hm := H.m
  cases hr3 : pR (cS I0 m u P).2
  · obtain ⟨Q2, Q3, hv, hR, hh, hrun⟩ := h1.val hr3
    have hn' := hn hr3
    have go : ∀ (c o : Int32), pk I0 m (cS I0 m u P).2 = c → c ≠ 0 → c ≠ 37 → c ≠ 8 → rk c = 1 → (∀ b1 b2, bo c (ba c b1 b2) (tg b2) (tg b1) o) → (∀ b1 b2, bt c b1 b2 = false) → EC I0 tx m P Q (false, add (cS I0 m u (adv (cS I0 m u P).2)).2 o 0) := by
      intro c o hc c0 c37 c8 hk hbo hbb
      obtain ⟨hA, htx⟩ := pk_at H hr3 hc c0
      have pre := pre_push (mk := c) (dd := qd Q3) hv.pre hA hm
      have hct := cS_c H hu hus pre (by rw [sD_id, qab_pu, hk]; decide) (by rw [sD_id, qab_pu]; exact c8) (show qd Q3 = dd by rw [← hdd, ← hv.ctx.d])
      have hb := bstep (w := false) hv hrun (rr_cmp hA htx hk hR (by rw [hv.ctx.ab]; intro h9; rw [h9] at hlow; exact absurd hlow (by decide)) hh) hA hm hk (by decide) (by decide) hlow hct.1 (by rw [decide_eq_false c37]; rfl) (fun _ => hbo _ _)
      rw [hbb, ni_f] at hb
      refine ⟨hb.1, fun k1 k2 => ?_⟩
      have e : pk I0 m (add (cS I0 m u (adv (cS I0 m u P).2)).2 o 0) = pk I0 m (cS I0 m u (adv (cS I0 m u P).2)).2 := by unfold pk; rw [pR_add, pA_add]
      have k1' : pR (add (cS I0 m u (adv (cS I0 m u P).2)).2 o 0) = false := k1
      have k2' : rk (pk I0 m (add (cS I0 m u (adv (cS I0 m u P).2)).2 o 0)) ≠ 0 := k2
      obtain ⟨i1, i2⟩ := pk_at H k1' rfl (pk_nd k2')
      refine hb.2.2 rfl rfl k1' _ i1 i2 (rk_12 k2' ?_)
      rw [e]
      exact hct.2 (by rw [pR_add] at k1'; exact k1')
    unfold cE
    by_cases c1 : pk I0 m (cS I0 m u P).2 = 60
    · rw [if_pos c1]
      exact go 60 15 c1 (by decide) (by decide) (by decide) rfl (fun _ _ => Or.inr (Or.inr (Or.inr (Or.inr (Or.inr (Or.inl ⟨rfl, rfl⟩)))))) (fun _ _ => rfl)
    · rw [if_neg c1]
      by_cases c2 : pk I0 m (cS I0 m u P).2 = 61
      · rw [if_pos c2]
        exact go 61 16 c2 (by decide) (by decide) (by decide) rfl (fun _ _ => Or.inr (Or.inr (Or.inr (Or.inr (Or.inr (Or.inr ⟨rfl, rfl⟩)))))) (fun _ _ => rfl)
      · rw [if_neg c2]
        refine ⟨Or.inr ⟨Q2, Q3, hv, Red.trans (r := 2) (by decide) hR (.nil (by rw [hv.ctx.ab]; exact hlow) (by have := hv.pre.b1; have := hv.pre.i; omega)), hh, hrun⟩, fun _ k => absurd (rk_0 hn' c1 c2) k⟩
  · have e : cE I0 m u P = cS I0 m u P := by
      unfold cE
      rw [pk_r hr3, if_neg (by decide), if_neg (by decide)]
    rw [e]
    refine ⟨?_, fun k => by rw [hr3] at k; cases k⟩
    rcases h1 with h1 | ⟨Q2, Q', hv, _⟩
    · exact Or.inl h1
    · have := hv.pre.r
      rw [hr3] at this; cases this
end EQ3
