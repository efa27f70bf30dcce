/-! THE CLASS's READER: expressions -/
section PURE
variable (I0 : pd_I) (m : Nat)
def numL : Nat → Int32 → pd_P → Int32 × pd_P
  | 0, v, P => (v, P)
  | f + 1, v, P => if isD (pk I0 m P) = true then numL f (v * 10 + (dg I0 m P 57).1) (dg I0 m P 57).2 else (v, P)
def numb (P : pd_P) : pd_P := add (numL I0 m 3 0 P).2 2 (numL I0 m 3 0 P).1
def rowP (dp : Nat) (e : pd_P → Bool × pd_P) (P : pd_P) : pd_P := if (opn I0 m P 91 dp).1 = true then (nd I0 m (add (ni (e (opn I0 m P 91 dp).2).2 (e (opn I0 m P 91 dp).2).1) 4 0) 93).2 else (opn I0 m P 91 dp).2
def parU (dp : Nat) (e : pd_P → Bool × pd_P) (P : pd_P) : Bool × pd_P := if (opn I0 m P 40 dp).1 = true then ((e (opn I0 m P 40 dp).2).1, (nd I0 m (e (opn I0 m P 40 dp).2).2 41).2) else (false, (opn I0 m P 40 dp).2)
def whU (dp : Nat) (u : pd_P → Bool × pd_P) (P : pd_P) : pd_P := if (opn I0 m P 35 dp).1 = true then (if (u (opn I0 m P 35 dp).2).1 = true then add (u (opn I0 m P 35 dp).2).2 6 0 else (u (opn I0 m P 35 dp).2).2) else (opn I0 m P 35 dp).2
def unitOf (dp : Nat) (e u : pd_P → Bool × pd_P) (P : pd_P) : Bool × pd_P :=
  if sv (pk I0 m P) < 0 then (if isD (pk I0 m P) = true then (false, numb I0 m P)
    else if pk I0 m P = 118 then (false, add (rowP I0 m dp e (adv P)) 5 0)
    else if pk I0 m P = 40 then parU I0 m dp e P else if pk I0 m P = 35 then (false, whU I0 m dp u P) else (false, rfs P))
  else (isR (sv (pk I0 m P)), add (adv P) 3 (sv (pk I0 m P)))
def termL (u : pd_P → Bool × pd_P) : Nat → Bool → pd_P → Bool × pd_P
  | 0, r, P => (r, P)
  | f + 1, r, P => if pk I0 m P = 42 then termL u f (r || (u (adv P)).1) (add (u (adv P)).2 (if (r || (u (adv P)).1) = false then 9 else 12) 0)
    else if pk I0 m P = 47 then termL u f true (add (u (adv P)).2 13 0)
    else if pk I0 m P = 37 then termL u f false (add (ni (u (adv P)).2 ((u (adv P)).1 || r)) 14 0)
    else (r, P)
def cT (u : pd_P → Bool × pd_P) (P : pd_P) : Bool × pd_P := termL I0 m u 48 (u P).1 (u P).2
def sumL (t : pd_P → Bool × pd_P) : Nat → Bool → pd_P → Bool × pd_P
  | 0, r, P => (r, P)
  | f + 1, r, P => if pk I0 m P = 43 then sumL t f (r || (t (adv P)).1) (add (t (adv P)).2 (if (r || (t (adv P)).1) = false then 7 else 10) 0)
    else if pk I0 m P = 45 then sumL t f (r || (t (adv P)).1) (add (t (adv P)).2 (if (r || (t (adv P)).1) = false then 8 else 11) 0)
    else (r, P)
def cS (u : pd_P → Bool × pd_P) (P : pd_P) : Bool × pd_P := sumL I0 m (cT I0 m u) 48 (cT I0 m u P).1 (cT I0 m u P).2
def cE (u : pd_P → Bool × pd_P) (P : pd_P) : Bool × pd_P :=
  if pk I0 m (cS I0 m u P).2 = 60 then (false, add (cS I0 m u (adv (cS I0 m u P).2)).2 15 0)
  else if pk I0 m (cS I0 m u P).2 = 61 then (false, add (cS I0 m u (adv (cS I0 m u P).2)).2 16 0)
  else cS I0 m u P
end PURE
section PAR2
variable {I0 : pd_I} {D : pd_D} {A : pd_A} {J : pd_J} {n c m : Nat} {P : pd_P} {xs : Nat → Int32} {Ls d : Nat}
theorem i10 : ((1 : Int32) = 0) = False := eq_false (by decide)
theorem ev39t (hd : 1 ≤ d) : mm_ev xs Ls pd_ck pd_ak pd_mj d 39 [.ref (1 : Nat), .int 1] (pd_st (pd_eP I0 c (P)) D A J n) = some (.inl none, (pd_st (pd_eP I0 c (ni P true)) D A J n)) := ev39 (b := true) hd
theorem ev39f (hd : 1 ≤ d) : mm_ev xs Ls pd_ck pd_ak pd_mj d 39 [.ref (1 : Nat), .int 0] (pd_st (pd_eP I0 c (P)) D A J n) = some (.inl none, (pd_st (pd_eP I0 c (ni P false)) D A J n)) := ev39 (b := false) hd
theorem ev29i {x : Int32} (hd : 2 ≤ d) (H : pd_H I0 A c m) (hx : x ≠ 0) : mm_ev xs Ls pd_ck pd_ak pd_mj d 29 [.ref (1 : Nat), .int x] (pd_st (pd_eP I0 c (P)) D A J n) = if pk I0 m P = x then some (.inl (some (.int 1)), (pd_st (pd_eP I0 c (adv P)) D A J n)) else some (.inl (some (.int 0)), (pd_st (pd_eP I0 c (P)) D A J n)) := by
  rw [ev29 hd H hx]
  unfold tk
  split <;> rfl
theorem pd_lt3 {x : Nat} (hx : x ≤ 1000) : (3 ≤ Int32.ofNat x) = (3 ≤ x) := pd_le (x := 3) (y := x) (by omega) (by omega)
theorem pd_lt48 {x : Nat} (hx : x ≤ 1000) : (48 ≤ Int32.ofNat x) = (48 ≤ x) := pd_le (x := 48) (y := x) (by omega) (by omega)
theorem lp35 (hd : 3 ≤ d) (H : pd_H I0 A c m) : ∀ (f i : Nat) (v : Int32) (P : pd_P), i + f = 3 → pd_G xs Ls d pd_m35 (4, [some (.ref (1 : Nat)), some (.int v), some (.int (Int32.ofNat i))], [], (pd_st (pd_eP I0 c (P)) D A J n)) (.inl none, (pd_st (pd_eP I0 c (add (numL I0 m f v P).2 2 (numL I0 m f v P).1)) D A J n)) := by
  obtain ⟨hc, a10, a12, ac0, ac1, h11, hm, hch⟩ := id H
  intro f
  induction f with
  | zero =>
    intro i v P hi
    simp only [p35_0, p35_1, p35_2, p35_3, p35_4, p35_5, p35_6, p35_9, p35_10, p35_13, p35_16, p35_19, p35_20, p35_22, p35_23, p35_24, p35_26, p35_29, p35_30, p35_31, p35_34, p35_37, p35_38, p35_41, p35_42, p35_43, p35_46, p35_47, gf2_2 sh1, mm_rV, pd_KinS1, qi0 sh1, qi1 sh1, qi2 hc.sh, so3_1i, so3_2i, mm_lA, mm_lI, mm_lD, mm_lJ, mm_ld0, mm_lds, pd_Kgo, pd_Kend, pd_Kno, pd_Kite, mm_i, mm_ii, mm_r, mm_1, mm_icmp, cond_true, cond_false, mm_o2, mm_c2, wt0, wt1, wt2, wt3, wt4, va_rfs, pd_bkv, pd_bkn, pd_bkif, pd_st1, Nat.reduceAdd, Nat.reduceLeDiff, Bool.or_false, Bool.or_self, pd_lt3 (x := i) (by omega), if_pos (show 3 ≤ i by omega), a12, ev14 (d := d) (by omega) H]
    rfl
  | succ f ih =>
    intro i v P hi
    rw [p35_4]
    simp only [p35_0, p35_1, p35_2, p35_3, p35_5, p35_6, p35_9, p35_10, p35_13, p35_16, p35_19, p35_20, p35_22, p35_23, p35_24, p35_26, p35_29, p35_30, p35_31, p35_34, p35_37, p35_38, p35_41, p35_42, p35_43, p35_46, p35_47, gf2_2 sh1, mm_rV, pd_KinS1, qi0 sh1, qi1 sh1, qi2 hc.sh, so3_1i, so3_2i, mm_lA, mm_lI, mm_lD, mm_lJ, mm_ld0, mm_lds, pd_Kgo, pd_Kend, pd_Kno, pd_Kite, mm_i, mm_ii, mm_r, mm_1, mm_icmp, cond_true, cond_false, mm_o2, mm_c2, wt0, wt1, wt2, wt3, wt4, va_rfs, pd_bkv, pd_bkn, pd_bkif, pd_st1, Nat.reduceAdd, Nat.reduceLeDiff, Bool.or_false, Bool.or_self, pd_lt3 (x := i) (by omega), if_neg (show ¬ 3 ≤ i by omega), ev25 (d := d) (by omega) H, ev34 (d := d) (by omega), pd_b0, pd_bt, pd_bt2, if_true, ev36 (d := d) (by omega) H, a12, ev14 (d := d) (by omega) H]
    unfold numL
    cases hD : isD (pk I0 m P)
    · simp
    · simp only [Bool.true_eq_false, if_false, if_true, pd_suc]
      exact ih (i + 1) _ _ (by omega)
theorem ev35 (hd : 4 ≤ d) (H : pd_H I0 A c m) : mm_ev xs Ls pd_ck pd_ak pd_mj d 35 [.ref (1 : Nat)] (pd_st (pd_eP I0 c (P)) D A J n) = some (.inl none, (pd_st (pd_eP I0 c (numb I0 m P)) D A J n)) := by
  obtain ⟨d, rfl⟩ : ∃ e, d = e + 1 := ⟨d - 1, by omega⟩
  obtain ⟨hc, a10, a12, ac0, ac1, h11, hm, hch⟩ := id H
  refine pd_ev_of (Nat.le_of_ble_eq_true rfl) ?_
  rw [show pd_mj 35 = pd_m35 from rfl, show mm_pad (mm_in [.ref (1 : Nat)]) pd_m35.nL = [some (.ref (1 : Nat)), none, none] from rfl]
  simp only [p35_0, p35_1, p35_2, p35_3, p35_5, p35_6, p35_9, p35_10, p35_13, p35_16, p35_19, p35_20, p35_22, p35_23, p35_24, p35_26, p35_29, p35_30, p35_31, p35_34, p35_37, p35_38, p35_41, p35_42, p35_43, p35_46, p35_47, gf2_2 sh1, mm_rV, pd_KinS1, qi0 sh1, qi1 sh1, qi2 hc.sh, so3_1i, so3_2i, mm_lA, mm_lI, mm_lD, mm_lJ, mm_ld0, mm_lds, pd_Kgo, pd_Kend, pd_Kno, pd_Kite, mm_i, mm_ii, mm_r, mm_1, mm_icmp, cond_true, cond_false, mm_o2, mm_c2, wt0, wt1, wt2, wt3, wt4, va_rfs, pd_bkv, pd_bkn, pd_bkif, pd_st1, Nat.reduceAdd, Nat.reduceLeDiff, Bool.or_false, Bool.or_self]
  exact lp35 (by omega) H 3 0 0 P rfl
theorem ev37 {dp k : Nat} {e : pd_P → Bool × pd_P} (hk : 4 ≤ k) (hd : k + 1 ≤ d) (H : pd_H I0 A c m) (hdp : dp ≤ 1000) (hE : dp < 5 → ∀ d P, k ≤ d → mm_ev xs Ls pd_ck pd_ak pd_mj d 30 [.ref (1 : Nat), .int (Int32.ofNat dp + 1)] (pd_st (pd_eP I0 c (P)) D A J n) = some (.inl (some (.int (pd_b (e P).1))), (pd_st (pd_eP I0 c ((e P).2)) D A J n))) : mm_ev xs Ls pd_ck pd_ak pd_mj d 37 [.ref (1 : Nat), .int (Int32.ofNat dp)] (pd_st (pd_eP I0 c (P)) D A J n) = some (.inl none, (pd_st (pd_eP I0 c (rowP I0 m dp e P)) D A J n)) := by
  obtain ⟨d, rfl⟩ : ∃ e, d = e + 1 := ⟨d - 1, by omega⟩
  obtain ⟨hc, a10, a12, ac0, ac1, h11, hm, hch⟩ := id H
  refine pd_ev_of (Nat.le_of_ble_eq_true rfl) ?_
  rw [show pd_mj 37 = pd_m37 from rfl, show mm_pad (mm_in [.ref (1 : Nat), .int (Int32.ofNat dp)]) pd_m37.nL = [some (.ref (1 : Nat)), some (.int (Int32.ofNat dp))] from rfl]
  by_cases h5 : dp < 5
  · simp only [p37_0, p37_1, p37_3, p37_4, p37_7, p37_10, p37_11, p37_12, p37_13, p37_14, p37_15, p37_18, p37_21, p37_22, p37_25, p37_26, p37_27, p37_30, p37_31, p37_32, p37_34, p37_37, p37_38, gf2_2 sh1, mm_rV, qi1 sh1, qi2 hc.sh, qi2 sh1, mm_lA, mm_lI, mm_lD, mm_lJ, mm_ld0, mm_lds, pd_Kgo, pd_Kend, pd_Kno, pd_Kite, mm_i, mm_ii, mm_r, mm_1, mm_icmp, cond_true, cond_false, mm_o2, mm_c2, wt0, wt1, wt2, wt3, wt4, va_rfs, pd_bkv, pd_bkn, pd_bkif, pd_st1, Nat.reduceAdd, Nat.reduceLeDiff, Bool.or_false, Bool.or_self, ev38 (d := d) (x := 91) (by omega) H (by decide) hdp, pd_b0, pd_bt, pd_bt2, if_true, hE h5 d _ (by omega), ev39 (d := d) (by omega), a12, ev14 (d := d) (by omega) H, ev28 (d := d) (x := 93) (by omega) H (by decide)]
    unfold rowP
    cases h : (opn I0 m P 91 dp).1 <;> simp
  · simp only [p37_0, p37_1, p37_3, p37_4, p37_7, p37_10, p37_11, p37_12, p37_13, p37_14, p37_15, p37_18, p37_21, p37_22, p37_25, p37_26, p37_27, p37_30, p37_31, p37_32, p37_34, p37_37, p37_38, gf2_2 sh1, mm_rV, qi1 sh1, qi2 hc.sh, qi2 sh1, mm_lA, mm_lI, mm_lD, mm_lJ, mm_ld0, mm_lds, pd_Kgo, pd_Kend, pd_Kno, pd_Kite, mm_i, mm_ii, mm_r, mm_1, mm_icmp, cond_true, cond_false, mm_o2, mm_c2, wt0, wt1, wt2, wt3, wt4, va_rfs, pd_bkv, pd_bkn, pd_bkif, pd_st1, Nat.reduceAdd, Nat.reduceLeDiff, Bool.or_false, Bool.or_self, ev38 (d := d) (x := 91) (by omega) H (by decide) hdp, pd_b0]
    unfold rowP
    have h : (opn I0 m P 91 dp).1 = false := by unfold opn; rw [if_pos (by omega)]
    simp [h]
theorem ev40 {dp k : Nat} {e : pd_P → Bool × pd_P} (hk : 4 ≤ k) (hd : k + 1 ≤ d) (H : pd_H I0 A c m) (hdp : dp ≤ 1000) (hE : dp < 5 → ∀ d P, k ≤ d → mm_ev xs Ls pd_ck pd_ak pd_mj d 30 [.ref (1 : Nat), .int (Int32.ofNat dp + 1)] (pd_st (pd_eP I0 c (P)) D A J n) = some (.inl (some (.int (pd_b (e P).1))), (pd_st (pd_eP I0 c ((e P).2)) D A J n))) : mm_ev xs Ls pd_ck pd_ak pd_mj d 40 [.ref (1 : Nat), .int (Int32.ofNat dp)] (pd_st (pd_eP I0 c (P)) D A J n) = some (.inl (some (.int (pd_b (parU I0 m dp e P).1))), (pd_st (pd_eP I0 c ((parU I0 m dp e P).2)) D A J n)) := by
  obtain ⟨d, rfl⟩ : ∃ e, d = e + 1 := ⟨d - 1, by omega⟩
  obtain ⟨hc, a10, a12, ac0, ac1, h11, hm, hch⟩ := id H
  refine pd_ev_of (Nat.le_of_ble_eq_true rfl) ?_
  rw [show pd_mj 40 = pd_m40 from rfl, show mm_pad (mm_in [.ref (1 : Nat), .int (Int32.ofNat dp)]) pd_m40.nL = [some (.ref (1 : Nat)), some (.int (Int32.ofNat dp)), none] from rfl]
  by_cases h5 : dp < 5
  · simp only [p40_0, p40_1, p40_3, p40_4, p40_7, p40_10, p40_11, p40_12, p40_13, p40_14, p40_15, p40_16, p40_19, p40_20, p40_21, p40_23, p40_26, p40_27, p40_28, mm_e4, qi1 sh1, qi2 sh1, so3_2i, mm_lA, mm_lI, mm_lD, mm_lJ, mm_ld0, mm_lds, pd_Kgo, pd_Kend, pd_Kno, pd_Kite, mm_i, mm_ii, mm_r, mm_1, mm_icmp, cond_true, cond_false, mm_o2, mm_c2, wt0, wt1, wt2, wt3, wt4, va_rfs, pd_bkv, pd_bkn, pd_bkif, pd_st1, Nat.reduceAdd, Nat.reduceLeDiff, Bool.or_false, Bool.or_self, ev38 (d := d) (x := 40) (by omega) H (by decide) hdp, pd_b0, pd_bt, pd_bt2, if_true, hE h5 d _ (by omega), ev28 (d := d) (x := 41) (by omega) H (by decide)]
    unfold parU
    cases h : (opn I0 m P 40 dp).1
    · simp [pd_b]
    · simp
  · simp only [p40_0, p40_1, p40_3, p40_4, p40_7, p40_10, p40_11, p40_12, p40_13, p40_14, p40_15, p40_16, p40_19, p40_20, p40_21, p40_23, p40_26, p40_27, p40_28, mm_e4, qi1 sh1, qi2 sh1, so3_2i, mm_lA, mm_lI, mm_lD, mm_lJ, mm_ld0, mm_lds, pd_Kgo, pd_Kend, pd_Kno, pd_Kite, mm_i, mm_ii, mm_r, mm_1, mm_icmp, cond_true, cond_false, mm_o2, mm_c2, wt0, wt1, wt2, wt3, wt4, va_rfs, pd_bkv, pd_bkn, pd_bkif, pd_st1, Nat.reduceAdd, Nat.reduceLeDiff, Bool.or_false, Bool.or_self, ev38 (d := d) (x := 40) (by omega) H (by decide) hdp, pd_b0]
    unfold parU
    have h : (opn I0 m P 40 dp).1 = false := by unfold opn; rw [if_pos (by omega)]
    simp [h, pd_b]
theorem ev41 {dp k : Nat} {u : pd_P → Bool × pd_P} (hk : 4 ≤ k) (hd : k + 1 ≤ d) (H : pd_H I0 A c m) (hdp : dp ≤ 1000) (hU : dp < 5 → ∀ d P, k ≤ d → mm_ev xs Ls pd_ck pd_ak pd_mj d 33 [.ref (1 : Nat), .int (Int32.ofNat dp + 1)] (pd_st (pd_eP I0 c (P)) D A J n) = some (.inl (some (.int (pd_b (u P).1))), (pd_st (pd_eP I0 c ((u P).2)) D A J n))) : mm_ev xs Ls pd_ck pd_ak pd_mj d 41 [.ref (1 : Nat), .int (Int32.ofNat dp)] (pd_st (pd_eP I0 c (P)) D A J n) = some (.inl none, (pd_st (pd_eP I0 c (whU I0 m dp u P)) D A J n)) := by
  obtain ⟨d, rfl⟩ : ∃ e, d = e + 1 := ⟨d - 1, by omega⟩
  obtain ⟨hc, a10, a12, ac0, ac1, h11, hm, hch⟩ := id H
  refine pd_ev_of (Nat.le_of_ble_eq_true rfl) ?_
  rw [show pd_mj 41 = pd_m41 from rfl, show mm_pad (mm_in [.ref (1 : Nat), .int (Int32.ofNat dp)]) pd_m41.nL = [some (.ref (1 : Nat)), some (.int (Int32.ofNat dp))] from rfl]
  by_cases h5 : dp < 5
  · simp only [p41_0, p41_1, p41_3, p41_4, p41_7, p41_10, p41_11, p41_12, p41_13, p41_14, p41_17, p41_20, p41_21, p41_24, p41_26, p41_27, p41_30, p41_31, gf2_2 sh1, mm_rV, qi1 sh1, qi2 hc.sh, qi2 sh1, mm_lA, mm_lI, mm_lD, mm_lJ, mm_ld0, mm_lds, pd_Kgo, pd_Kend, pd_Kno, pd_Kite, mm_i, mm_ii, mm_r, mm_1, mm_icmp, cond_true, cond_false, mm_o2, mm_c2, wt0, wt1, wt2, wt3, wt4, va_rfs, pd_bkv, pd_bkn, pd_bkif, pd_st1, Nat.reduceAdd, Nat.reduceLeDiff, Bool.or_false, Bool.or_self, ev38 (d := d) (x := 35) (by omega) H (by decide) hdp, pd_b0, pd_bt, pd_bt2, if_true, hU h5 d _ (by omega), a12, ev14 (d := d) (by omega) H]
    unfold whU
    cases h : (opn I0 m P 35 dp).1
    · simp
    · cases h2 : (u (opn I0 m P 35 dp).2).1 <;> simp [h2]
  · simp only [p41_0, p41_1, p41_3, p41_4, p41_7, p41_10, p41_11, p41_12, p41_13, p41_14, p41_17, p41_20, p41_21, p41_24, p41_26, p41_27, p41_30, p41_31, gf2_2 sh1, mm_rV, qi1 sh1, qi2 hc.sh, qi2 sh1, mm_lA, mm_lI, mm_lD, mm_lJ, mm_ld0, mm_lds, pd_Kgo, pd_Kend, pd_Kno, pd_Kite, mm_i, mm_ii, mm_r, mm_1, mm_icmp, cond_true, cond_false, mm_o2, mm_c2, wt0, wt1, wt2, wt3, wt4, va_rfs, pd_bkv, pd_bkn, pd_bkif, pd_st1, Nat.reduceAdd, Nat.reduceLeDiff, Bool.or_false, Bool.or_self, ev38 (d := d) (x := 35) (by omega) H (by decide) hdp, pd_b0]
    unfold whU
    have h : (opn I0 m P 35 dp).1 = false := by unfold opn; rw [if_pos (by omega)]
    simp [h]
theorem sv0 : sv 0 < 0 := by decide
theorem ev33 {dp k : Nat} {e u : pd_P → Bool × pd_P} (hk : 4 ≤ k) (hd : k + 2 ≤ d) (H : pd_H I0 A c m) (hdp : dp ≤ 1000) (hE : dp < 5 → ∀ d P, k ≤ d → mm_ev xs Ls pd_ck pd_ak pd_mj d 30 [.ref (1 : Nat), .int (Int32.ofNat dp + 1)] (pd_st (pd_eP I0 c (P)) D A J n) = some (.inl (some (.int (pd_b (e P).1))), (pd_st (pd_eP I0 c ((e P).2)) D A J n))) (hU : dp < 5 → ∀ d P, k ≤ d → mm_ev xs Ls pd_ck pd_ak pd_mj d 33 [.ref (1 : Nat), .int (Int32.ofNat dp + 1)] (pd_st (pd_eP I0 c (P)) D A J n) = some (.inl (some (.int (pd_b (u P).1))), (pd_st (pd_eP I0 c ((u P).2)) D A J n))) : mm_ev xs Ls pd_ck pd_ak pd_mj d 33 [.ref (1 : Nat), .int (Int32.ofNat dp)] (pd_st (pd_eP I0 c (P)) D A J n) = some (.inl (some (.int (pd_b (unitOf I0 m dp e u P).1))), (pd_st (pd_eP I0 c ((unitOf I0 m dp e u P).2)) D A J n)) := by
  obtain ⟨d, rfl⟩ : ∃ e, d = e + 1 := ⟨d - 1, by omega⟩
  obtain ⟨hc, a10, a12, ac0, ac1, h11, hm, hch⟩ := id H
  refine pd_ev_of (Nat.le_of_ble_eq_true rfl) ?_
  rw [show pd_mj 33 = pd_m33 from rfl, show mm_pad (mm_in [.ref (1 : Nat), .int (Int32.ofNat dp)]) pd_m33.nL = [some (.ref (1 : Nat)), some (.int (Int32.ofNat dp)), none, none] from rfl]
  simp only [p33_0, p33_1, p33_4, p33_5, p33_6, p33_9, p33_10, p33_11, p33_14, p33_15, p33_16, p33_19, p33_20, p33_21, p33_24, p33_25, p33_28, p33_29, p33_30, p33_33, p33_34, p33_35, p33_38, p33_39, p33_40, p33_43, p33_46, p33_47, p33_50, p33_51, p33_52, p33_53, p33_55, p33_58, p33_61, p33_62, p33_63, p33_66, p33_67, p33_70, p33_71, p33_72, p33_75, p33_76, p33_77, p33_78, p33_79, p33_81, p33_84, p33_85, p33_86, p33_89, p33_90, p33_91, p33_93, p33_96, p33_97, p33_98, p33_101, p33_102, p33_103, p33_104, p33_105, p33_108, p33_109, gf2_2 sh1, gf2_3 sh1, mm_e4, pd_KinS1, pf2_3 sh1, pf2_4 sh1, qi0 sh1, qi1 sh1, qi2 hc.sh, so4_2i, so4_3i, mm_lA, mm_lI, mm_lD, mm_lJ, mm_ld0, mm_lds, pd_Kgo, pd_Kend, pd_Kno, pd_Kite, mm_i, mm_ii, mm_r, mm_1, mm_icmp, cond_true, cond_false, mm_o2, mm_c2, wt0, wt1, wt2, wt3, wt4, va_rfs, pd_bkv, pd_bkn, pd_bkif, pd_st1, Nat.reduceAdd, Nat.reduceLeDiff, Bool.or_false, Bool.or_self, ev25 (d := d) (by omega) H, ev26 (d := d) (by omega), ev34 (d := d) (by omega), pd_b0, pd_bt, pd_bt2, if_true, ev35 (d := d) (by omega) H, ev29i (d := d) (x := 118) (by omega) H (by decide), ev37 (d := d) hk (by omega) H hdp hE, ev40 (d := d) hk (by omega) H hdp hE, ev41 (d := d) hk (by omega) H hdp hU, a12, ev14 (d := d) (by omega) H, eP_13, eP_rf, or_true, true_or, ev67 (d := d) (by omega)]
  unfold unitOf
  by_cases h1 : sv (pk I0 m P) < 0
  · simp only [if_pos h1]
    cases h2 : isD (pk I0 m P)
    · simp only [Bool.false_eq_true, if_false, if_true]
      by_cases h3 : pk I0 m P = 118
      · simp only [if_pos h3] <;> rfl
      · simp only [if_neg h3]
        by_cases h4 : pk I0 m P = 40
        · simp only [if_pos h4] <;> simp
        · simp only [if_neg h4]
          by_cases h5 : pk I0 m P = 35
          · simp only [if_pos h5] <;> rfl
          · simp only [if_neg h5] <;> rfl
    · simp <;> rfl
  · have h0 : pk I0 m P ≠ 0 := by intro h; rw [h] at h1; exact h1 sv0
    simp only [if_neg h1, eP_adv (pkc_lt h0 hm)]
    simp only [p33_0, p33_1, p33_4, p33_5, p33_6, p33_9, p33_10, p33_11, p33_14, p33_15, p33_16, p33_19, p33_20, p33_21, p33_24, p33_25, p33_28, p33_29, p33_30, p33_33, p33_34, p33_35, p33_38, p33_39, p33_40, p33_43, p33_46, p33_47, p33_50, p33_51, p33_52, p33_53, p33_55, p33_58, p33_61, p33_62, p33_63, p33_66, p33_67, p33_70, p33_71, p33_72, p33_75, p33_76, p33_77, p33_78, p33_79, p33_81, p33_84, p33_85, p33_86, p33_89, p33_90, p33_91, p33_93, p33_96, p33_97, p33_98, p33_101, p33_102, p33_103, p33_104, p33_105, p33_108, p33_109, gf2_2 sh1, gf2_3 sh1, mm_e4, pd_KinS1, pf2_3 sh1, pf2_4 sh1, qi0 sh1, qi1 sh1, qi2 hc.sh, so4_2i, so4_3i, mm_lA, mm_lI, mm_lD, mm_lJ, mm_ld0, mm_lds, pd_Kgo, pd_Kend, pd_Kno, pd_Kite, mm_i, mm_ii, mm_r, mm_1, mm_icmp, cond_true, cond_false, mm_o2, mm_c2, wt0, wt1, wt2, wt3, wt4, va_rfs, pd_bkv, pd_bkn, pd_bkif, pd_st1, Nat.reduceAdd, Nat.reduceLeDiff, Bool.or_false, Bool.or_self, a12, ev14 (d := d) (by omega) H, ev67 (d := d) (by omega), pd_bt, if_true]
theorem lp32 {dpI : Int32} {k : Nat} {u : pd_P → Bool × pd_P} (hk : 4 ≤ k) (hd : k ≤ d) (H : pd_H I0 A c m) (hU : ∀ d P, k ≤ d → mm_ev xs Ls pd_ck pd_ak pd_mj d 33 [.ref (1 : Nat), .int dpI] (pd_st (pd_eP I0 c (P)) D A J n) = some (.inl (some (.int (pd_b (u P).1))), (pd_st (pd_eP I0 c ((u P).2)) D A J n))) : ∀ (f i : Nat) (r : Bool) (P : pd_P), i + f = 48 → pd_G xs Ls d pd_m32 (8, [some (.ref (1 : Nat)), some (.int dpI), some (.int (pd_b r)), some (.int (Int32.ofNat i))], [], (pd_st (pd_eP I0 c (P)) D A J n)) (.inl (some (.int (pd_b (termL I0 m u f r P).1))), (pd_st (pd_eP I0 c ((termL I0 m u f r P).2)) D A J n)) := by
  obtain ⟨hc, a10, a12, ac0, ac1, h11, hm, hch⟩ := id H
  intro f
  induction f with
  | zero =>
    intro i r P hi
    simp only [p32_0, p32_1, p32_2, p32_5, p32_6, p32_7, p32_8, p32_9, p32_11, p32_14, p32_15, p32_17, p32_20, p32_23, p32_24, p32_25, p32_26, p32_29, p32_30, p32_31, p32_32, p32_35, p32_36, p32_39, p32_41, p32_44, p32_46, p32_47, p32_50, p32_51, p32_54, p32_55, p32_57, p32_60, p32_63, p32_64, p32_65, p32_68, p32_69, p32_70, p32_73, p32_75, p32_76, p32_79, p32_80, p32_81, p32_82, p32_85, p32_86, p32_88, p32_91, p32_94, p32_95, p32_96, p32_97, p32_100, p32_103, p32_104, p32_107, p32_108, p32_111, p32_112, p32_115, p32_116, p32_119, p32_121, p32_122, p32_125, p32_126, p32_127, p32_128, p32_131, p32_132, p32_133, p32_136, p32_139, p32_140, gf2_2 sh1, mm_e4, qi1 sh1, qi2 hc.sh, so4_2i, so4_3i, mm_lA, mm_lI, mm_lD, mm_lJ, mm_ld0, mm_lds, pd_Kgo, pd_Kend, pd_Kno, pd_Kite, mm_i, mm_ii, mm_r, mm_1, mm_icmp, cond_true, cond_false, mm_o2, mm_c2, wt0, wt1, wt2, wt3, wt4, va_rfs, pd_bkv, pd_bkn, pd_bkif, pd_st1, Nat.reduceAdd, Nat.reduceLeDiff, Bool.or_false, Bool.or_self, pd_lt48 (x := i) (by omega), if_pos (show 48 ≤ i by omega), pd_bt, if_true]
    rfl
  | succ f ih =>
    intro i r P hi
    rw [p32_8]
    simp only [p32_0, p32_1, p32_2, p32_5, p32_6, p32_7, p32_9, p32_11, p32_14, p32_15, p32_17, p32_20, p32_23, p32_24, p32_25, p32_26, p32_29, p32_30, p32_31, p32_32, p32_35, p32_36, p32_39, p32_41, p32_44, p32_46, p32_47, p32_50, p32_51, p32_54, p32_55, p32_57, p32_60, p32_63, p32_64, p32_65, p32_68, p32_69, p32_70, p32_73, p32_75, p32_76, p32_79, p32_80, p32_81, p32_82, p32_85, p32_86, p32_88, p32_91, p32_94, p32_95, p32_96, p32_97, p32_100, p32_103, p32_104, p32_107, p32_108, p32_111, p32_112, p32_115, p32_116, p32_119, p32_121, p32_122, p32_125, p32_126, p32_127, p32_128, p32_131, p32_132, p32_133, p32_136, p32_139, p32_140, gf2_2 sh1, mm_e4, qi1 sh1, qi2 hc.sh, so4_2i, so4_3i, mm_lA, mm_lI, mm_lD, mm_lJ, mm_ld0, mm_lds, pd_Kgo, pd_Kend, pd_Kno, pd_Kite, mm_i, mm_ii, mm_r, mm_1, mm_icmp, cond_true, cond_false, mm_o2, mm_c2, wt0, wt1, wt2, wt3, wt4, va_rfs, pd_bkv, pd_bkn, pd_bkif, pd_st1, Nat.reduceAdd, Nat.reduceLeDiff, Bool.or_false, Bool.or_self, pd_lt48 (x := i) (by omega), if_neg (show ¬ 48 ≤ i by omega), ev29i (d := d) (x := 42) (by omega) H (by decide), ev29i (d := d) (x := 47) (by omega) H (by decide), ev29i (d := d) (x := 37) (by omega) H (by decide), hU d _ (by omega), pd_bor, pd_b0, pd_bt, pd_bt2, if_true, if_false, i10, a12, ev14 (d := d) (by omega) H, ev39t (d := d) (by omega), ev39f (d := d) (by omega)]
    unfold termL
    by_cases h1 : pk I0 m P = 42
    · simp only [if_pos h1]
      cases hr : (r || (u (adv P)).1)
      · simp only [i10, if_false, if_true, pd_suc]
        exact ih (i + 1) _ _ (by omega)
      · simp only [i10, if_false, Bool.true_eq_false, pd_suc]
        exact ih (i + 1) _ _ (by omega)
    · simp only [if_neg h1]
      by_cases h2 : pk I0 m P = 47
      · simp only [if_pos h2, i10, if_false, if_true, pd_suc]
        exact ih (i + 1) true _ (by omega)
      · simp only [if_neg h2]
        by_cases h3 : pk I0 m P = 37
        · simp only [if_pos h3, i10, if_false, if_true, pd_suc]
          cases h4 : (u (adv P)).1
          · cases r
            · simp only [Bool.false_eq_true, if_false, if_true]
              exact ih (i + 1) false _ (by omega)
            · simp only [Bool.true_eq_false, if_false, if_true]
              exact ih (i + 1) false _ (by omega)
          · simp only [Bool.true_eq_false, if_false, if_true]
            exact ih (i + 1) false _ (by omega)
        · simp only [if_neg h3, i10, if_false, if_true]
theorem ev32 {dpI : Int32} {k : Nat} {u : pd_P → Bool × pd_P} (hk : 4 ≤ k) (hd : k + 1 ≤ d) (H : pd_H I0 A c m) (hU : ∀ d P, k ≤ d → mm_ev xs Ls pd_ck pd_ak pd_mj d 33 [.ref (1 : Nat), .int dpI] (pd_st (pd_eP I0 c (P)) D A J n) = some (.inl (some (.int (pd_b (u P).1))), (pd_st (pd_eP I0 c ((u P).2)) D A J n))) : mm_ev xs Ls pd_ck pd_ak pd_mj d 32 [.ref (1 : Nat), .int dpI] (pd_st (pd_eP I0 c (P)) D A J n) = some (.inl (some (.int (pd_b (cT I0 m u P).1))), (pd_st (pd_eP I0 c ((cT I0 m u P).2)) D A J n)) := by
  obtain ⟨d, rfl⟩ : ∃ e, d = e + 1 := ⟨d - 1, by omega⟩
  obtain ⟨hc, a10, a12, ac0, ac1, h11, hm, hch⟩ := id H
  refine pd_ev_of (Nat.le_of_ble_eq_true rfl) ?_
  rw [show pd_mj 32 = pd_m32 from rfl, show mm_pad (mm_in [.ref (1 : Nat), .int dpI]) pd_m32.nL = [some (.ref (1 : Nat)), some (.int dpI), none, none] from rfl]
  simp only [p32_0, p32_1, p32_2, p32_5, p32_6, p32_7, p32_9, p32_11, p32_14, p32_15, p32_17, p32_20, p32_23, p32_24, p32_25, p32_26, p32_29, p32_30, p32_31, p32_32, p32_35, p32_36, p32_39, p32_41, p32_44, p32_46, p32_47, p32_50, p32_51, p32_54, p32_55, p32_57, p32_60, p32_63, p32_64, p32_65, p32_68, p32_69, p32_70, p32_73, p32_75, p32_76, p32_79, p32_80, p32_81, p32_82, p32_85, p32_86, p32_88, p32_91, p32_94, p32_95, p32_96, p32_97, p32_100, p32_103, p32_104, p32_107, p32_108, p32_111, p32_112, p32_115, p32_116, p32_119, p32_121, p32_122, p32_125, p32_126, p32_127, p32_128, p32_131, p32_132, p32_133, p32_136, p32_139, p32_140, gf2_2 sh1, mm_e4, qi1 sh1, qi2 hc.sh, so4_2i, so4_3i, mm_lA, mm_lI, mm_lD, mm_lJ, mm_ld0, mm_lds, pd_Kgo, pd_Kend, pd_Kno, pd_Kite, mm_i, mm_ii, mm_r, mm_1, mm_icmp, cond_true, cond_false, mm_o2, mm_c2, wt0, wt1, wt2, wt3, wt4, va_rfs, pd_bkv, pd_bkn, pd_bkif, pd_st1, Nat.reduceAdd, Nat.reduceLeDiff, Bool.or_false, Bool.or_self, hU d _ (by omega)]
  exact lp32 hk (by omega) H hU 48 0 _ _ rfl
theorem lp31 {dpI : Int32} {k : Nat} {t : pd_P → Bool × pd_P} (hk : 4 ≤ k) (hd : k ≤ d) (H : pd_H I0 A c m) (hT : ∀ d P, k ≤ d → mm_ev xs Ls pd_ck pd_ak pd_mj d 32 [.ref (1 : Nat), .int dpI] (pd_st (pd_eP I0 c (P)) D A J n) = some (.inl (some (.int (pd_b (t P).1))), (pd_st (pd_eP I0 c ((t P).2)) D A J n))) : ∀ (f i : Nat) (r : Bool) (P : pd_P), i + f = 48 → pd_G xs Ls d pd_m31 (8, [some (.ref (1 : Nat)), some (.int dpI), some (.int (pd_b r)), some (.int (Int32.ofNat i))], [], (pd_st (pd_eP I0 c (P)) D A J n)) (.inl (some (.int (pd_b (sumL I0 m t f r P).1))), (pd_st (pd_eP I0 c ((sumL I0 m t f r P).2)) D A J n)) := by
  obtain ⟨hc, a10, a12, ac0, ac1, h11, hm, hch⟩ := id H
  intro f
  induction f with
  | zero =>
    intro i r P hi
    simp only [p31_0, p31_1, p31_2, p31_5, p31_6, p31_7, p31_8, p31_9, p31_11, p31_14, p31_15, p31_17, p31_20, p31_23, p31_24, p31_25, p31_26, p31_29, p31_30, p31_31, p31_32, p31_35, p31_36, p31_39, p31_41, p31_44, p31_46, p31_47, p31_50, p31_51, p31_54, p31_55, p31_57, p31_60, p31_63, p31_64, p31_65, p31_66, p31_69, p31_70, p31_71, p31_72, p31_75, p31_76, p31_79, p31_81, p31_84, p31_86, p31_87, p31_90, p31_91, p31_94, p31_95, p31_96, p31_99, p31_102, p31_103, gf2_2 sh1, mm_e4, qi1 sh1, qi2 hc.sh, so4_2i, so4_3i, mm_lA, mm_lI, mm_lD, mm_lJ, mm_ld0, mm_lds, pd_Kgo, pd_Kend, pd_Kno, pd_Kite, mm_i, mm_ii, mm_r, mm_1, mm_icmp, cond_true, cond_false, mm_o2, mm_c2, wt0, wt1, wt2, wt3, wt4, va_rfs, pd_bkv, pd_bkn, pd_bkif, pd_st1, Nat.reduceAdd, Nat.reduceLeDiff, Bool.or_false, Bool.or_self, pd_lt48 (x := i) (by omega), if_pos (show 48 ≤ i by omega), pd_bt, if_true]
    rfl
  | succ f ih =>
    intro i r P hi
    rw [p31_8]
    simp only [p31_0, p31_1, p31_2, p31_5, p31_6, p31_7, p31_9, p31_11, p31_14, p31_15, p31_17, p31_20, p31_23, p31_24, p31_25, p31_26, p31_29, p31_30, p31_31, p31_32, p31_35, p31_36, p31_39, p31_41, p31_44, p31_46, p31_47, p31_50, p31_51, p31_54, p31_55, p31_57, p31_60, p31_63, p31_64, p31_65, p31_66, p31_69, p31_70, p31_71, p31_72, p31_75, p31_76, p31_79, p31_81, p31_84, p31_86, p31_87, p31_90, p31_91, p31_94, p31_95, p31_96, p31_99, p31_102, p31_103, gf2_2 sh1, mm_e4, qi1 sh1, qi2 hc.sh, so4_2i, so4_3i, mm_lA, mm_lI, mm_lD, mm_lJ, mm_ld0, mm_lds, pd_Kgo, pd_Kend, pd_Kno, pd_Kite, mm_i, mm_ii, mm_r, mm_1, mm_icmp, cond_true, cond_false, mm_o2, mm_c2, wt0, wt1, wt2, wt3, wt4, va_rfs, pd_bkv, pd_bkn, pd_bkif, pd_st1, Nat.reduceAdd, Nat.reduceLeDiff, Bool.or_false, Bool.or_self, pd_lt48 (x := i) (by omega), if_neg (show ¬ 48 ≤ i by omega), ev29i (d := d) (x := 43) (by omega) H (by decide), ev29i (d := d) (x := 45) (by omega) H (by decide), hT d _ (by omega), pd_bor, pd_b0, pd_bt, pd_bt2, if_true, if_false, i10, a12, ev14 (d := d) (by omega) H]
    unfold sumL
    by_cases h1 : pk I0 m P = 43
    · simp only [if_pos h1]
      cases hr : (r || (t (adv P)).1)
      · simp only [i10, if_false, if_true, pd_suc]
        exact ih (i + 1) _ _ (by omega)
      · simp only [i10, if_false, Bool.true_eq_false, pd_suc]
        exact ih (i + 1) _ _ (by omega)
    · simp only [if_neg h1]
      by_cases h2 : pk I0 m P = 45
      · simp only [if_pos h2]
        cases hr : (r || (t (adv P)).1)
        · simp only [i10, if_false, if_true, pd_suc]
          exact ih (i + 1) _ _ (by omega)
        · simp only [i10, if_false, Bool.true_eq_false, if_true, pd_suc]
          exact ih (i + 1) _ _ (by omega)
      · simp only [if_neg h2, i10, if_false, if_true]
theorem ev31 {dpI : Int32} {k : Nat} {u : pd_P → Bool × pd_P} (hk : 4 ≤ k) (hd : k + 2 ≤ d) (H : pd_H I0 A c m) (hU : ∀ d P, k ≤ d → mm_ev xs Ls pd_ck pd_ak pd_mj d 33 [.ref (1 : Nat), .int dpI] (pd_st (pd_eP I0 c (P)) D A J n) = some (.inl (some (.int (pd_b (u P).1))), (pd_st (pd_eP I0 c ((u P).2)) D A J n))) : mm_ev xs Ls pd_ck pd_ak pd_mj d 31 [.ref (1 : Nat), .int dpI] (pd_st (pd_eP I0 c (P)) D A J n) = some (.inl (some (.int (pd_b (cS I0 m u P).1))), (pd_st (pd_eP I0 c ((cS I0 m u P).2)) D A J n)) := by
  obtain ⟨d, rfl⟩ : ∃ e, d = e + 1 := ⟨d - 1, by omega⟩
  obtain ⟨hc, a10, a12, ac0, ac1, h11, hm, hch⟩ := id H
  have hT : ∀ d P, k + 1 ≤ d → mm_ev xs Ls pd_ck pd_ak pd_mj d 32 [.ref (1 : Nat), .int dpI] (pd_st (pd_eP I0 c (P)) D A J n) = some (.inl (some (.int (pd_b (cT I0 m u P).1))), (pd_st (pd_eP I0 c ((cT I0 m u P).2)) D A J n)) := fun d P hd => ev32 hk hd H hU
  refine pd_ev_of (Nat.le_of_ble_eq_true rfl) ?_
  rw [show pd_mj 31 = pd_m31 from rfl, show mm_pad (mm_in [.ref (1 : Nat), .int dpI]) pd_m31.nL = [some (.ref (1 : Nat)), some (.int dpI), none, none] from rfl]
  simp only [p31_0, p31_1, p31_2, p31_5, p31_6, p31_7, p31_9, p31_11, p31_14, p31_15, p31_17, p31_20, p31_23, p31_24, p31_25, p31_26, p31_29, p31_30, p31_31, p31_32, p31_35, p31_36, p31_39, p31_41, p31_44, p31_46, p31_47, p31_50, p31_51, p31_54, p31_55, p31_57, p31_60, p31_63, p31_64, p31_65, p31_66, p31_69, p31_70, p31_71, p31_72, p31_75, p31_76, p31_79, p31_81, p31_84, p31_86, p31_87, p31_90, p31_91, p31_94, p31_95, p31_96, p31_99, p31_102, p31_103, gf2_2 sh1, mm_e4, qi1 sh1, qi2 hc.sh, so4_2i, so4_3i, mm_lA, mm_lI, mm_lD, mm_lJ, mm_ld0, mm_lds, pd_Kgo, pd_Kend, pd_Kno, pd_Kite, mm_i, mm_ii, mm_r, mm_1, mm_icmp, cond_true, cond_false, mm_o2, mm_c2, wt0, wt1, wt2, wt3, wt4, va_rfs, pd_bkv, pd_bkn, pd_bkif, pd_st1, Nat.reduceAdd, Nat.reduceLeDiff, Bool.or_false, Bool.or_self, hT d _ (by omega)]
  exact lp31 (k := k + 1) (by omega) (by omega) H hT 48 0 _ _ rfl
theorem ev30 {dpI : Int32} {k : Nat} {u : pd_P → Bool × pd_P} (hk : 4 ≤ k) (hd : k + 3 ≤ d) (H : pd_H I0 A c m) (hU : ∀ d P, k ≤ d → mm_ev xs Ls pd_ck pd_ak pd_mj d 33 [.ref (1 : Nat), .int dpI] (pd_st (pd_eP I0 c (P)) D A J n) = some (.inl (some (.int (pd_b (u P).1))), (pd_st (pd_eP I0 c ((u P).2)) D A J n))) : mm_ev xs Ls pd_ck pd_ak pd_mj d 30 [.ref (1 : Nat), .int dpI] (pd_st (pd_eP I0 c (P)) D A J n) = some (.inl (some (.int (pd_b (cE I0 m u P).1))), (pd_st (pd_eP I0 c ((cE I0 m u P).2)) D A J n)) := by
  obtain ⟨d, rfl⟩ : ∃ e, d = e + 1 := ⟨d - 1, by omega⟩
  obtain ⟨hc, a10, a12, ac0, ac1, h11, hm, hch⟩ := id H
  have hT : ∀ d P, k + 2 ≤ d → mm_ev xs Ls pd_ck pd_ak pd_mj d 31 [.ref (1 : Nat), .int dpI] (pd_st (pd_eP I0 c (P)) D A J n) = some (.inl (some (.int (pd_b (cS I0 m u P).1))), (pd_st (pd_eP I0 c ((cS I0 m u P).2)) D A J n)) := fun d P hd => ev31 hk hd H hU
  refine pd_ev_of (Nat.le_of_ble_eq_true rfl) ?_
  rw [show pd_mj 30 = pd_m30 from rfl, show mm_pad (mm_in [.ref (1 : Nat), .int dpI]) pd_m30.nL = [some (.ref (1 : Nat)), some (.int dpI), none] from rfl]
  simp only [p30_0, p30_1, p30_2, p30_5, p30_6, p30_7, p30_9, p30_12, p30_15, p30_16, p30_17, p30_20, p30_21, p30_22, p30_25, p30_27, p30_28, p30_31, p30_32, p30_33, p30_34, p30_35, p30_37, p30_40, p30_43, p30_44, p30_45, p30_48, p30_49, p30_50, p30_53, p30_55, p30_56, p30_59, p30_60, p30_61, p30_62, p30_63, gf2_2 sh1, mm_e4, qi1 sh1, qi2 hc.sh, so3_2i, mm_lA, mm_lI, mm_lD, mm_lJ, mm_ld0, mm_lds, pd_Kgo, pd_Kend, pd_Kno, pd_Kite, mm_i, mm_ii, mm_r, mm_1, mm_icmp, cond_true, cond_false, mm_o2, mm_c2, wt0, wt1, wt2, wt3, wt4, va_rfs, pd_bkv, pd_bkn, pd_bkif, pd_st1, Nat.reduceAdd, Nat.reduceLeDiff, Bool.or_false, Bool.or_self, hT d _ (by omega), ev29i (d := d) (x := 60) (by omega) H (by decide), ev29i (d := d) (x := 61) (by omega) H (by decide), pd_b0, pd_bt, pd_bt2, if_true, if_false, i10, a12, ev14 (d := d) (by omega) H, true_or]
  unfold cE
  by_cases h1 : pk I0 m (cS I0 m u P).2 = 60
  · simp only [if_pos h1, i10, if_false, if_true] <;> rfl
  · simp only [if_neg h1, i10, if_false, if_true]
    by_cases h2 : pk I0 m (cS I0 m u P).2 = 61
    · simp only [if_pos h2, i10, if_false, if_true] <;> rfl
    · simp only [if_neg h2, if_true]
/-- the unit at a depth of 5 - k, the expression at such a depth -/
def cU (I0 : pd_I) (m : Nat) : Nat → pd_P → Bool × pd_P
  | 0 => unitOf I0 m 5 (fun P => (false, P)) (fun P => (false, P))
  | k + 1 => unitOf I0 m (4 - k) (cE I0 m (cU I0 m k)) (cU I0 m k)
theorem ev33c (H : pd_H I0 A c m) : ∀ (k : Nat), k ≤ 5 → ∀ d P, 6 * k + 6 ≤ d → mm_ev xs Ls pd_ck pd_ak pd_mj d 33 [.ref (1 : Nat), .int (Int32.ofNat (5 - k))] (pd_st (pd_eP I0 c (P)) D A J n) = some (.inl (some (.int (pd_b (cU I0 m k P).1))), (pd_st (pd_eP I0 c ((cU I0 m k P).2)) D A J n)) := by
  intro k
  induction k with
  | zero =>
    intro _ d P hd
    exact ev33 (k := 4) (by omega) (by omega) H (by omega) (fun h => absurd h (by omega)) (fun h => absurd h (by omega))
  | succ k ih =>
    intro hk5 d P hd
    have e : Int32.ofNat (4 - k) + 1 = Int32.ofNat (5 - k) := by rw [pd_suc, show 4 - k + 1 = 5 - k by omega]
    rw [show 5 - (k + 1) = 4 - k by omega]
    refine ev33 (k := 6 * k + 9) (by omega) (by omega) H (by omega) (fun h d P hd => ?_) (fun h d P hd => ?_)
    · rw [e]
      exact ev30 (k := 6 * k + 6) (by omega) (by omega) H (ih (by omega))
    · rw [e]
      exact ih (by omega) d P (by omega)
theorem ev30c (H : pd_H I0 A c m) {k : Nat} (hk : k ≤ 5) (hd : 6 * k + 9 ≤ d) : mm_ev xs Ls pd_ck pd_ak pd_mj d 30 [.ref (1 : Nat), .int (Int32.ofNat (5 - k))] (pd_st (pd_eP I0 c (P)) D A J n) = some (.inl (some (.int (pd_b (cE I0 m (cU I0 m k) P).1))), (pd_st (pd_eP I0 c ((cE I0 m (cU I0 m k) P).2)) D A J n)) :=
  ev30 (k := 6 * k + 6) (by omega) hd H (ev33c H k hk)
end PAR2
