/-! THE CLASS's READER: statements -/
section PURE
variable (I0 : pd_I) (m : Nat)
def setS (e : pd_P → Bool × pd_P) (s : Int32) (P : pd_P) : pd_P := if (nd I0 m (adv P) 61).1 = true then add (if isR s = true then (e (nd I0 m (adv P) 61).2).2 else ni (e (nd I0 m (adv P) 61).2).2 (e (nd I0 m (adv P) 61).2).1) 17 s else (nd I0 m (adv P) 61).2
def rowS (dp : Nat) (e e1 : pd_P → Bool × pd_P) (P : pd_P) : pd_P := if (nd I0 m (rowP I0 m dp e1 P) 61).1 = true then add (ni (e (nd I0 m (rowP I0 m dp e1 P) 61).2).2 (e (nd I0 m (rowP I0 m dp e1 P) 61).2).1) 18 0 else (nd I0 m (rowP I0 m dp e1 P) 61).2
def blkS (dp : Nat) (b : pd_P → pd_P) (P : pd_P) : pd_P := if (opn I0 m P 123 dp).1 = true then (nd I0 m (b (opn I0 m P 123 dp).2) 125).2 else (opn I0 m P 123 dp).2
def ifS (dp : Nat) (e : pd_P → Bool × pd_P) (b : pd_P → pd_P) (P : pd_P) : pd_P := ptH (blkS I0 m dp b (add (ni (e P).2 (e P).1) 19 0)) (pN (ni (e P).2 (e P).1))
def loopS (dp : Nat) (e : pd_P → Bool × pd_P) (b : pd_P → pd_P) (P : pd_P) : pd_P := ptH (add (blkS I0 m dp b (add (ni (e P).2 (e P).1) 19 0)) 1 (Int32.ofNat (pN P))) (pN (ni (e P).2 (e P).1))
def both2 (b : pd_P → pd_P) (Q Q3 : pd_P) : pd_P := if (nd I0 m Q3 124).1 = true then (nd I0 m (ptH (add (b (ptH (nd I0 m Q3 124).2 (pN Q))) 0 0) (pN (add Q 24 0))) 125).2 else (nd I0 m Q3 124).2
def bothS (dp : Nat) (b : pd_P → pd_P) (P : pd_P) : pd_P := if (opn I0 m P 123 dp).1 = true then both2 I0 m b (opn I0 m P 123 dp).2 (add (b (add (add (opn I0 m P 123 dp).2 24 0) 1 0)) 0 0) else (opn I0 m P 123 dp).2
def stOf (dp : Nat) (e e1 : pd_P → Bool × pd_P) (b : pd_P → pd_P) (P : pd_P) : pd_P :=
  if sv (pk I0 m P) < 0 then
    (if pk I0 m P = 118 then rowS I0 m dp e e1 (adv (sts P))
    else if pk I0 m P = 63 then ifS I0 m dp e b (adv (sts P))
    else if pk I0 m P = 64 then loopS I0 m dp e b (adv (sts P))
    else if pk I0 m P = 33 then add (e (adv (sts P))).2 20 0
    else if pk I0 m P = 87 then add (dg I0 m (adv (sts P)) 49).2 21 (dg I0 m (adv (sts P)) 49).1
    else if pk I0 m P = 83 then add (dg I0 m (adv (sts P)) 49).2 22 (dg I0 m (adv (sts P)) 49).1
    else if pk I0 m P = 80 then add (dg I0 m (adv (sts P)) 51).2 23 (dg I0 m (adv (sts P)) 51).1
    else if pk I0 m P = 38 then bothS I0 m dp b (adv (sts P))
    else rfs (sts P))
  else setS I0 m e (sv (pk I0 m P)) (sts P)
def bodyL (st : pd_P → pd_P) : Nat → pd_P → pd_P
  | 0, P => P
  | f + 1, P => if pk I0 m P = 59 then bodyL st f (st (adv P)) else P
def cB : Nat → pd_P → pd_P
  | 0 => fun P => bodyL I0 m (stOf I0 m 5 (cE I0 m (cU I0 m 0)) (fun P => (false, P)) (fun P => P)) 48 (stOf I0 m 5 (cE I0 m (cU I0 m 0)) (fun P => (false, P)) (fun P => P) P)
  | k + 1 => fun P => bodyL I0 m (stOf I0 m (4 - k) (cE I0 m (cU I0 m (k + 1))) (cE I0 m (cU I0 m k)) (cB k)) 48 (stOf I0 m (4 - k) (cE I0 m (cU I0 m (k + 1))) (cE I0 m (cU I0 m k)) (cB k) P)
end PURE
section PAR3
variable {I0 : pd_I} {D : pd_D} {A : pd_A} {J : pd_J} {n c m : Nat} {P : pd_P} {xs : Nat → Int32} {Ls d : Nat} {dp q : Nat} {e e1 : pd_P → Bool × pd_P} {b : pd_P → pd_P}
theorem pk_sts : pk I0 m (sts P) = pk I0 m P := rfl
theorem ev29s {x : Int32} (hd : 2 ≤ d) (H : pd_H I0 A c m) (hx : x ≠ 0) : mm_ev xs Ls pd_ck pd_ak pd_mj d 29 [.ref (1 : Nat), .int x] (pd_st (pd_eP I0 c (sts P)) D A J n) = if pk I0 m P = x then some (.inl (some (.int 1)), (pd_st (pd_eP I0 c (adv (sts P))) D A J n)) else some (.inl (some (.int 0)), (pd_st (pd_eP I0 c (sts P)) D A J n)) := ev29i (P := sts P) hd H hx
theorem ev27 {s : Int32} {dpI : Int32} (hq : 9 ≤ q) (hd : q + 2 ≤ d) (H : pd_H I0 A c m) (hA : pA P < 48) (hE : ∀ d P, q ≤ d → mm_ev xs Ls pd_ck pd_ak pd_mj d 30 [.ref (1 : Nat), .int dpI] (pd_st (pd_eP I0 c (P)) D A J n) = some (.inl (some (.int (pd_b (e P).1))), (pd_st (pd_eP I0 c ((e P).2)) D A J n))) : mm_ev xs Ls pd_ck pd_ak pd_mj d 27 [.ref (1 : Nat), .int s, .int dpI] (pd_st (pd_eP I0 c (P)) D A J n) = some (.inl none, (pd_st (pd_eP I0 c (setS I0 m e s P)) D A J n)) := by
  obtain ⟨d, rfl⟩ : ∃ e, d = e + 1 := ⟨d - 1, by omega⟩
  obtain ⟨hc, a10, a12, ac0, ac1, h11, hm, hch⟩ := id H
  refine pd_ev_of (Nat.le_of_ble_eq_true rfl) ?_
  rw [show pd_mj 27 = pd_m27 from rfl, show mm_pad (mm_in [.ref (1 : Nat), .int s, .int dpI]) pd_m27.nL = [some (.ref (1 : Nat)), some (.int s), some (.int dpI), none] from rfl]
  simp only [p27_0, p27_1, p27_2, p27_5, p27_6, p27_7, p27_10, p27_11, p27_13, p27_16, p27_19, p27_20, p27_21, p27_22, p27_25, p27_26, p27_27, p27_30, p27_33, p27_34, p27_35, p27_38, p27_39, p27_42, p27_44, p27_45, p27_48, p27_49, gf2_2 sh1, gf2_3 sh1, mm_rV, pd_KinS1, pf2_3 sh1, qi1 sh1, qi2 hc.sh, so4_3i, mm_lA, mm_lI, mm_lD, mm_lJ, mm_ld0, mm_lds, pd_Kgo, pd_Kend, pd_Kno, pd_Kite, mm_i, mm_ii, mm_r, mm_1, mm_icmp, cond_true, cond_false, mm_o2, mm_c2, wt0, wt1, wt2, wt3, wt4, va_rfs, pd_bkv, pd_bkn, pd_bkif, pd_st1, Nat.reduceAdd, Nat.reduceLeDiff, Bool.or_false, Bool.or_self, eP_13, eP_adv hA, ev28 (d := d) (x := 61) (by omega) H (by decide), pd_b0, hE d _ (by omega), ev67 (d := d) (by omega), ev39 (d := d) (by omega), a12, ev14 (d := d) (by omega) H]
  unfold setS
  cases h : (nd I0 m (adv P) 61).1
  · simp
  · cases h2 : isR s <;> simp
theorem ev42 (hq : 9 ≤ q) (hd : q + 2 ≤ d) (H : pd_H I0 A c m) (hdp : dp ≤ 1000) (hE : ∀ d P, q ≤ d → mm_ev xs Ls pd_ck pd_ak pd_mj d 30 [.ref (1 : Nat), .int (Int32.ofNat dp)] (pd_st (pd_eP I0 c (P)) D A J n) = some (.inl (some (.int (pd_b (e P).1))), (pd_st (pd_eP I0 c ((e P).2)) D A J n))) (hE1 : dp < 5 → ∀ d P, q ≤ d → mm_ev xs Ls pd_ck pd_ak pd_mj d 30 [.ref (1 : Nat), .int (Int32.ofNat dp + 1)] (pd_st (pd_eP I0 c (P)) D A J n) = some (.inl (some (.int (pd_b (e1 P).1))), (pd_st (pd_eP I0 c ((e1 P).2)) D A J n))) : mm_ev xs Ls pd_ck pd_ak pd_mj d 42 [.ref (1 : Nat), .int (Int32.ofNat dp)] (pd_st (pd_eP I0 c (P)) D A J n) = some (.inl none, (pd_st (pd_eP I0 c (rowS I0 m dp e e1 P)) D A J n)) := by
  obtain ⟨d, rfl⟩ : ∃ e, d = e + 1 := ⟨d - 1, by omega⟩
  obtain ⟨hc, a10, a12, ac0, ac1, h11, hm, hch⟩ := id H
  refine pd_ev_of (Nat.le_of_ble_eq_true rfl) ?_
  rw [show pd_mj 42 = pd_m42 from rfl, show mm_pad (mm_in [.ref (1 : Nat), .int (Int32.ofNat dp)]) pd_m42.nL = [some (.ref (1 : Nat)), some (.int (Int32.ofNat dp))] from rfl]
  simp only [p42_0, p42_1, p42_2, p42_5, p42_6, p42_8, p42_11, p42_14, p42_15, p42_16, p42_17, p42_18, p42_21, p42_24, p42_25, p42_28, p42_30, p42_31, p42_34, p42_35, gf2_2 sh1, mm_rV, qi1 sh1, qi2 hc.sh, mm_lA, mm_lI, mm_lD, mm_lJ, mm_ld0, mm_lds, pd_Kgo, pd_Kend, pd_Kno, pd_Kite, mm_i, mm_ii, mm_r, mm_1, mm_icmp, cond_true, cond_false, mm_o2, mm_c2, wt0, wt1, wt2, wt3, wt4, va_rfs, pd_bkv, pd_bkn, pd_bkif, pd_st1, Nat.reduceAdd, Nat.reduceLeDiff, Bool.or_false, Bool.or_self, ev37 (d := d) (k := q) (by omega) (by omega) H hdp hE1, ev28 (d := d) (x := 61) (by omega) H (by decide), pd_b0, hE d _ (by omega), ev39 (d := d) (by omega), a12, ev14 (d := d) (by omega) H]
  unfold rowS
  cases h : (nd I0 m (rowP I0 m dp e1 P) 61).1 <;> simp
theorem ev44 (hq : 9 ≤ q) (hd : q + 1 ≤ d) (H : pd_H I0 A c m) (hdp : dp ≤ 1000) (hB : dp < 5 → ∀ d P, q ≤ d → mm_ev xs Ls pd_ck pd_ak pd_mj d 23 [.ref (1 : Nat), .int (Int32.ofNat dp + 1)] (pd_st (pd_eP I0 c (P)) D A J n) = some (.inl none, (pd_st (pd_eP I0 c (b P)) D A J n))) : mm_ev xs Ls pd_ck pd_ak pd_mj d 44 [.ref (1 : Nat), .int (Int32.ofNat dp)] (pd_st (pd_eP I0 c (P)) D A J n) = some (.inl none, (pd_st (pd_eP I0 c (blkS I0 m dp b P)) D A J n)) := by
  obtain ⟨d, rfl⟩ : ∃ e, d = e + 1 := ⟨d - 1, by omega⟩
  obtain ⟨hc, a10, a12, ac0, ac1, h11, hm, hch⟩ := id H
  refine pd_ev_of (Nat.le_of_ble_eq_true rfl) ?_
  rw [show pd_mj 44 = pd_m44 from rfl, show mm_pad (mm_in [.ref (1 : Nat), .int (Int32.ofNat dp)]) pd_m44.nL = [some (.ref (1 : Nat)), some (.int (Int32.ofNat dp))] from rfl]
  by_cases h5 : dp < 5
  · simp only [p44_0, p44_1, p44_3, p44_4, p44_7, p44_10, p44_11, p44_12, p44_13, p44_14, p44_17, p44_18, p44_20, p44_23, p44_24, mm_rV, qi1 sh1, qi2 sh1, mm_lA, mm_lI, mm_lD, mm_lJ, mm_ld0, mm_lds, pd_Kgo, pd_Kend, pd_Kno, pd_Kite, mm_i, mm_ii, mm_r, mm_1, mm_icmp, cond_true, cond_false, mm_o2, mm_c2, wt0, wt1, wt2, wt3, wt4, va_rfs, pd_bkv, pd_bkn, pd_bkif, pd_st1, Nat.reduceAdd, Nat.reduceLeDiff, Bool.or_false, Bool.or_self, ev38 (d := d) (x := 123) (by omega) H (by decide) hdp, pd_b0, hB h5 d _ (by omega), ev28 (d := d) (x := 125) (by omega) H (by decide)]
    unfold blkS
    cases h : (opn I0 m P 123 dp).1 <;> simp
  · simp only [p44_0, p44_1, p44_3, p44_4, p44_7, p44_10, p44_11, p44_12, p44_13, p44_14, p44_17, p44_18, p44_20, p44_23, p44_24, mm_rV, qi1 sh1, qi2 sh1, mm_lA, mm_lI, mm_lD, mm_lJ, mm_ld0, mm_lds, pd_Kgo, pd_Kend, pd_Kno, pd_Kite, mm_i, mm_ii, mm_r, mm_1, mm_icmp, cond_true, cond_false, mm_o2, mm_c2, wt0, wt1, wt2, wt3, wt4, va_rfs, pd_bkv, pd_bkn, pd_bkif, pd_st1, Nat.reduceAdd, Nat.reduceLeDiff, Bool.or_false, Bool.or_self, ev38 (d := d) (x := 123) (by omega) H (by decide) hdp, pd_b0]
    unfold blkS
    have h : (opn I0 m P 123 dp).1 = false := by unfold opn; rw [if_pos (by omega)]
    simp [h]
theorem ev43 (hq : 9 ≤ q) (hd : q + 2 ≤ d) (H : pd_H I0 A c m) (hdp : dp ≤ 1000) (hE : ∀ d P, q ≤ d → mm_ev xs Ls pd_ck pd_ak pd_mj d 30 [.ref (1 : Nat), .int (Int32.ofNat dp)] (pd_st (pd_eP I0 c (P)) D A J n) = some (.inl (some (.int (pd_b (e P).1))), (pd_st (pd_eP I0 c ((e P).2)) D A J n))) (hB : dp < 5 → ∀ d P, q ≤ d → mm_ev xs Ls pd_ck pd_ak pd_mj d 23 [.ref (1 : Nat), .int (Int32.ofNat dp + 1)] (pd_st (pd_eP I0 c (P)) D A J n) = some (.inl none, (pd_st (pd_eP I0 c (b P)) D A J n))) : mm_ev xs Ls pd_ck pd_ak pd_mj d 43 [.ref (1 : Nat), .int (Int32.ofNat dp)] (pd_st (pd_eP I0 c (P)) D A J n) = some (.inl none, (pd_st (pd_eP I0 c (ifS I0 m dp e b P)) D A J n)) := by
  obtain ⟨d, rfl⟩ : ∃ e, d = e + 1 := ⟨d - 1, by omega⟩
  obtain ⟨hc, a10, a12, ac0, ac1, h11, hm, hch⟩ := id H
  have hN := fun P => pN_le P
  refine pd_ev_of (Nat.le_of_ble_eq_true rfl) ?_
  rw [show pd_mj 43 = pd_m43 from rfl, show mm_pad (mm_in [.ref (1 : Nat), .int (Int32.ofNat dp)]) pd_m43.nL = [some (.ref (1 : Nat)), some (.int (Int32.ofNat dp)), none] from rfl]
  simp only [p43_0, p43_1, p43_2, p43_3, p43_6, p43_9, p43_10, p43_13, p43_15, p43_16, p43_19, p43_20, p43_21, p43_22, p43_25, p43_26, p43_29, p43_30, p43_33, gf2_2 sh1, mm_rV, qi1 hc.sh, qi1 sh1, qi2 hc.sh, so3_2i, mm_lA, mm_lI, mm_lD, mm_lJ, mm_ld0, mm_lds, pd_Kgo, pd_Kend, pd_Kno, pd_Kite, mm_i, mm_ii, mm_r, mm_1, mm_icmp, cond_true, cond_false, mm_o2, mm_c2, wt0, wt1, wt2, wt3, wt4, va_rfs, pd_bkv, pd_bkn, pd_bkif, pd_st1, Nat.reduceAdd, Nat.reduceLeDiff, Bool.or_false, Bool.or_self, hE d _ (by omega), ev39 (d := d) (by omega), a12, ev14 (d := d) (by omega) H, ev44 (d := d) hq (by omega) H hdp hB, ev15 (d := d) (k := pN (ni (e P).2 (e P).1)) (by omega) H (by have := hN (ni (e P).2 (e P).1); omega)]
  rfl
theorem ev45 (hq : 9 ≤ q) (hd : q + 2 ≤ d) (H : pd_H I0 A c m) (hdp : dp ≤ 1000) (hE : ∀ d P, q ≤ d → mm_ev xs Ls pd_ck pd_ak pd_mj d 30 [.ref (1 : Nat), .int (Int32.ofNat dp)] (pd_st (pd_eP I0 c (P)) D A J n) = some (.inl (some (.int (pd_b (e P).1))), (pd_st (pd_eP I0 c ((e P).2)) D A J n))) (hB : dp < 5 → ∀ d P, q ≤ d → mm_ev xs Ls pd_ck pd_ak pd_mj d 23 [.ref (1 : Nat), .int (Int32.ofNat dp + 1)] (pd_st (pd_eP I0 c (P)) D A J n) = some (.inl none, (pd_st (pd_eP I0 c (b P)) D A J n))) : mm_ev xs Ls pd_ck pd_ak pd_mj d 45 [.ref (1 : Nat), .int (Int32.ofNat dp)] (pd_st (pd_eP I0 c (P)) D A J n) = some (.inl none, (pd_st (pd_eP I0 c (loopS I0 m dp e b P)) D A J n)) := by
  obtain ⟨d, rfl⟩ : ∃ e, d = e + 1 := ⟨d - 1, by omega⟩
  obtain ⟨hc, a10, a12, ac0, ac1, h11, hm, hch⟩ := id H
  have hN := fun P => pN_le P
  refine pd_ev_of (Nat.le_of_ble_eq_true rfl) ?_
  rw [show pd_mj 45 = pd_m45 from rfl, show mm_pad (mm_in [.ref (1 : Nat), .int (Int32.ofNat dp)]) pd_m45.nL = [some (.ref (1 : Nat)), some (.int (Int32.ofNat dp)), none, none] from rfl]
  simp only [p45_0, p45_1, p45_4, p45_7, p45_8, p45_9, p45_10, p45_11, p45_14, p45_17, p45_18, p45_21, p45_23, p45_24, p45_27, p45_28, p45_29, p45_30, p45_33, p45_34, p45_37, p45_38, p45_39, p45_42, p45_43, p45_44, p45_47, p45_48, p45_51, gf2_2 sh1, mm_rV, qi0 hc.sh, qi1 hc.sh, qi1 sh1, qi2 hc.sh, so4_2i, so4_3i, mm_lA, mm_lI, mm_lD, mm_lJ, mm_ld0, mm_lds, pd_Kgo, pd_Kend, pd_Kno, pd_Kite, mm_i, mm_ii, mm_r, mm_1, mm_icmp, cond_true, cond_false, mm_o2, mm_c2, wt0, wt1, wt2, wt3, wt4, va_rfs, pd_bkv, pd_bkn, pd_bkif, pd_st1, Nat.reduceAdd, Nat.reduceLeDiff, Bool.or_false, Bool.or_self, hE d _ (by omega), ev39 (d := d) (by omega), a12, ev16 (d := d) (by omega) H, ev14 (d := d) (by omega) H, ev44 (d := d) hq (by omega) H hdp hB, ev15 (d := d) (k := pN (ni (e P).2 (e P).1)) (by omega) H (by have := hN (ni (e P).2 (e P).1); omega)]
  rfl
theorem ev46 (hq : 9 ≤ q) (hd : q + 2 ≤ d) (H : pd_H I0 A c m) (hdp : dp ≤ 1000) (hB : dp < 5 → ∀ d P, q ≤ d → mm_ev xs Ls pd_ck pd_ak pd_mj d 23 [.ref (1 : Nat), .int (Int32.ofNat dp + 1)] (pd_st (pd_eP I0 c (P)) D A J n) = some (.inl none, (pd_st (pd_eP I0 c (b P)) D A J n))) : mm_ev xs Ls pd_ck pd_ak pd_mj d 46 [.ref (1 : Nat), .int (Int32.ofNat dp)] (pd_st (pd_eP I0 c (P)) D A J n) = some (.inl none, (pd_st (pd_eP I0 c (bothS I0 m dp b P)) D A J n)) := by
  obtain ⟨d, rfl⟩ : ∃ e, d = e + 1 := ⟨d - 1, by omega⟩
  obtain ⟨hc, a10, a12, ac0, ac1, h11, hm, hch⟩ := id H
  have hN := fun P => pN_le P
  refine pd_ev_of (Nat.le_of_ble_eq_true rfl) ?_
  rw [show pd_mj 46 = pd_m46 from rfl, show mm_pad (mm_in [.ref (1 : Nat), .int (Int32.ofNat dp)]) pd_m46.nL = [some (.ref (1 : Nat)), some (.int (Int32.ofNat dp)), none, none] from rfl]
  by_cases h5 : dp < 5
  · simp only [p46_0, p46_1, p46_3, p46_4, p46_7, p46_10, p46_11, p46_12, p46_15, p46_17, p46_18, p46_21, p46_22, p46_23, p46_26, p46_27, p46_28, p46_31, p46_32, p46_33, p46_34, p46_35, p46_36, p46_39, p46_40, p46_43, p46_44, p46_45, p46_48, p46_49, p46_50, p46_52, p46_55, p46_58, p46_59, p46_60, p46_63, p46_64, p46_67, p46_68, p46_69, p46_70, p46_71, p46_74, p46_75, p46_78, p46_79, p46_80, p46_83, p46_84, p46_85, p46_88, p46_89, p46_92, p46_93, p46_95, p46_98, p46_99, gf2_2 sh1, mm_rV, qi1 hc.sh, qi1 sh1, qi2 hc.sh, qi2 sh1, so4_2i, so4_3i, mm_lA, mm_lI, mm_lD, mm_lJ, mm_ld0, mm_lds, pd_Kgo, pd_Kend, pd_Kno, pd_Kite, mm_i, mm_ii, mm_r, mm_1, mm_icmp, cond_true, cond_false, mm_o2, mm_c2, wt0, wt1, wt2, wt3, wt4, va_rfs, pd_bkv, pd_bkn, pd_bkif, pd_st1, Nat.reduceAdd, Nat.reduceLeDiff, Bool.or_false, Bool.or_self, ev38 (d := d) (x := 123) (by omega) H (by decide) hdp, pd_b0, hB h5 d _ (by omega), a12, ev14 (d := d) (by omega) H, ev28 (d := d) (x := 124) (by omega) H (by decide), ev28 (d := d) (x := 125) (by omega) H (by decide), ev15 (d := d) (k := pN (opn I0 m P 123 dp).2) (by omega) H (by have := hN (opn I0 m P 123 dp).2; omega), ev15 (d := d) (k := pN (add (opn I0 m P 123 dp).2 24 0)) (by omega) H (by have := hN (add (opn I0 m P 123 dp).2 24 0); omega)]
    unfold bothS both2
    cases h : (opn I0 m P 123 dp).1
    · simp
    · cases h2 : (nd I0 m (add (b (add (add (opn I0 m P 123 dp).2 24 0) 1 0)) 0 0) 124).1 <;> simp [h2]
  · simp only [p46_0, p46_1, p46_3, p46_4, p46_7, p46_10, p46_11, p46_12, p46_15, p46_17, p46_18, p46_21, p46_22, p46_23, p46_26, p46_27, p46_28, p46_31, p46_32, p46_33, p46_34, p46_35, p46_36, p46_39, p46_40, p46_43, p46_44, p46_45, p46_48, p46_49, p46_50, p46_52, p46_55, p46_58, p46_59, p46_60, p46_63, p46_64, p46_67, p46_68, p46_69, p46_70, p46_71, p46_74, p46_75, p46_78, p46_79, p46_80, p46_83, p46_84, p46_85, p46_88, p46_89, p46_92, p46_93, p46_95, p46_98, p46_99, gf2_2 sh1, mm_rV, qi1 hc.sh, qi1 sh1, qi2 hc.sh, qi2 sh1, so4_2i, so4_3i, mm_lA, mm_lI, mm_lD, mm_lJ, mm_ld0, mm_lds, pd_Kgo, pd_Kend, pd_Kno, pd_Kite, mm_i, mm_ii, mm_r, mm_1, mm_icmp, cond_true, cond_false, mm_o2, mm_c2, wt0, wt1, wt2, wt3, wt4, va_rfs, pd_bkv, pd_bkn, pd_bkif, pd_st1, Nat.reduceAdd, Nat.reduceLeDiff, Bool.or_false, Bool.or_self, ev38 (d := d) (x := 123) (by omega) H (by decide) hdp, pd_b0]
    unfold bothS
    have h : (opn I0 m P 123 dp).1 = false := by unfold opn; rw [if_pos (by omega)]
    simp [h]
theorem ev24 (hq : 9 ≤ q) (hd : q + 3 ≤ d) (H : pd_H I0 A c m) (hdp : dp ≤ 1000) (hE : ∀ d P, q ≤ d → mm_ev xs Ls pd_ck pd_ak pd_mj d 30 [.ref (1 : Nat), .int (Int32.ofNat dp)] (pd_st (pd_eP I0 c (P)) D A J n) = some (.inl (some (.int (pd_b (e P).1))), (pd_st (pd_eP I0 c ((e P).2)) D A J n))) (hE1 : dp < 5 → ∀ d P, q ≤ d → mm_ev xs Ls pd_ck pd_ak pd_mj d 30 [.ref (1 : Nat), .int (Int32.ofNat dp + 1)] (pd_st (pd_eP I0 c (P)) D A J n) = some (.inl (some (.int (pd_b (e1 P).1))), (pd_st (pd_eP I0 c ((e1 P).2)) D A J n))) (hB : dp < 5 → ∀ d P, q ≤ d → mm_ev xs Ls pd_ck pd_ak pd_mj d 23 [.ref (1 : Nat), .int (Int32.ofNat dp + 1)] (pd_st (pd_eP I0 c (P)) D A J n) = some (.inl none, (pd_st (pd_eP I0 c (b P)) D A J n))) : mm_ev xs Ls pd_ck pd_ak pd_mj d 24 [.ref (1 : Nat), .int (Int32.ofNat dp)] (pd_st (pd_eP I0 c (P)) D A J n) = some (.inl none, (pd_st (pd_eP I0 c (stOf I0 m dp e e1 b P)) D A J n)) := by
  obtain ⟨d, rfl⟩ : ∃ e, d = e + 1 := ⟨d - 1, by omega⟩
  obtain ⟨hc, a10, a12, ac0, ac1, h11, hm, hch⟩ := id H
  refine pd_ev_of (Nat.le_of_ble_eq_true rfl) ?_
  rw [show pd_mj 24 = pd_m24 from rfl, show mm_pad (mm_in [.ref (1 : Nat), .int (Int32.ofNat dp)]) pd_m24.nL = [some (.ref (1 : Nat)), some (.int (Int32.ofNat dp)), none] from rfl]
  by_cases h1 : sv (pk I0 m P) < 0
  · simp only [p24_0, p24_1, p24_4, p24_7, p24_8, p24_9, p24_12, p24_13, p24_16, p24_17, p24_18, p24_21, p24_22, p24_25, p24_26, p24_27, p24_28, p24_31, p24_34, p24_35, p24_37, p24_40, p24_43, p24_44, p24_45, p24_48, p24_51, p24_52, p24_54, p24_57, p24_60, p24_61, p24_62, p24_65, p24_68, p24_69, p24_71, p24_74, p24_77, p24_78, p24_79, p24_82, p24_85, p24_86, p24_88, p24_91, p24_94, p24_95, p24_96, p24_99, p24_100, p24_101, p24_104, p24_106, p24_107, p24_110, p24_111, p24_114, p24_115, p24_117, p24_120, p24_123, p24_124, p24_127, p24_129, p24_130, p24_132, p24_135, p24_138, p24_139, p24_142, p24_143, p24_145, p24_148, p24_151, p24_152, p24_155, p24_157, p24_158, p24_160, p24_163, p24_166, p24_167, p24_170, p24_171, p24_173, p24_176, p24_179, p24_180, p24_183, p24_185, p24_186, p24_188, p24_191, p24_194, p24_195, p24_198, p24_199, p24_201, p24_204, p24_207, p24_208, p24_209, p24_212, p24_215, p24_216, p24_217, p24_220, gf1_3 hc.sh, gf2_2 sh1, mm_rV, pd_KinS1, pf1_3 hc.sh, pf2_4 sh1, qi0 sh1, qi1 sh1, qi2 hc.sh, qi2 sh1, so3_2i, mm_lA, mm_lI, mm_lD, mm_lJ, mm_ld0, mm_lds, pd_Kgo, pd_Kend, pd_Kno, pd_Kite, mm_i, mm_ii, mm_r, mm_1, mm_icmp, cond_true, cond_false, mm_o2, mm_c2, wt0, wt1, wt2, wt3, wt4, va_rfs, pd_bkv, pd_bkn, pd_bkif, pd_st1, Nat.reduceAdd, Nat.reduceLeDiff, Bool.or_false, Bool.or_self, ev25 (d := d) (by omega) H, ev26 (d := d) (by omega), a12, eP_c3 hc, eP_st hc, if_pos h1, ev29s (d := d) (x := 118) (by omega) H (by decide), ev29s (d := d) (x := 63) (by omega) H (by decide), ev29s (d := d) (x := 64) (by omega) H (by decide), ev29s (d := d) (x := 33) (by omega) H (by decide), ev29s (d := d) (x := 87) (by omega) H (by decide), ev29s (d := d) (x := 83) (by omega) H (by decide), ev29s (d := d) (x := 80) (by omega) H (by decide), ev29s (d := d) (x := 38) (by omega) H (by decide), i10, if_false, if_true, ev42 (d := d) hq (by omega) H hdp hE hE1, ev43 (d := d) hq (by omega) H hdp hE hB, ev45 (d := d) hq (by omega) H hdp hE hB, ev46 (d := d) hq (by omega) H hdp hB, hE d _ (by omega), ev14 (d := d) (by omega) H, ev36 (d := d) (by omega) H, or_true, eP_rf]
    unfold stOf
    rw [if_pos h1]
    by_cases g1 : pk I0 m P = 118
    · simp only [if_pos g1]
    · simp only [if_neg g1]
      by_cases g2 : pk I0 m P = 63
      · simp only [if_pos g2]
      · simp only [if_neg g2]
        by_cases g3 : pk I0 m P = 64
        · simp only [if_pos g3]
        · simp only [if_neg g3]
          by_cases g4 : pk I0 m P = 33
          · simp only [if_pos g4]
          · simp only [if_neg g4]
            by_cases g5 : pk I0 m P = 87
            · simp only [if_pos g5]
            · simp only [if_neg g5]
              by_cases g6 : pk I0 m P = 83
              · simp only [if_pos g6]
              · simp only [if_neg g6]
                by_cases g7 : pk I0 m P = 80
                · simp only [if_pos g7]
                · simp only [if_neg g7]
                  by_cases g8 : pk I0 m P = 38
                  · simp only [if_pos g8]
                  · simp only [if_neg g8]
  · have h0 : pk I0 m P ≠ 0 := by intro h; rw [h] at h1; exact h1 sv0
    simp only [p24_0, p24_1, p24_4, p24_7, p24_8, p24_9, p24_12, p24_13, p24_16, p24_17, p24_18, p24_21, p24_22, p24_25, p24_26, p24_27, p24_28, p24_31, p24_34, p24_35, p24_37, p24_40, p24_43, p24_44, p24_45, p24_48, p24_51, p24_52, p24_54, p24_57, p24_60, p24_61, p24_62, p24_65, p24_68, p24_69, p24_71, p24_74, p24_77, p24_78, p24_79, p24_82, p24_85, p24_86, p24_88, p24_91, p24_94, p24_95, p24_96, p24_99, p24_100, p24_101, p24_104, p24_106, p24_107, p24_110, p24_111, p24_114, p24_115, p24_117, p24_120, p24_123, p24_124, p24_127, p24_129, p24_130, p24_132, p24_135, p24_138, p24_139, p24_142, p24_143, p24_145, p24_148, p24_151, p24_152, p24_155, p24_157, p24_158, p24_160, p24_163, p24_166, p24_167, p24_170, p24_171, p24_173, p24_176, p24_179, p24_180, p24_183, p24_185, p24_186, p24_188, p24_191, p24_194, p24_195, p24_198, p24_199, p24_201, p24_204, p24_207, p24_208, p24_209, p24_212, p24_215, p24_216, p24_217, p24_220, gf1_3 hc.sh, gf2_2 sh1, mm_rV, pd_KinS1, pf1_3 hc.sh, pf2_4 sh1, qi0 sh1, qi1 sh1, qi2 hc.sh, qi2 sh1, so3_2i, mm_lA, mm_lI, mm_lD, mm_lJ, mm_ld0, mm_lds, pd_Kgo, pd_Kend, pd_Kno, pd_Kite, mm_i, mm_ii, mm_r, mm_1, mm_icmp, cond_true, cond_false, mm_o2, mm_c2, wt0, wt1, wt2, wt3, wt4, va_rfs, pd_bkv, pd_bkn, pd_bkif, pd_st1, Nat.reduceAdd, Nat.reduceLeDiff, Bool.or_false, Bool.or_self, ev25 (d := d) (by omega) H, ev26 (d := d) (by omega), a12, eP_c3 hc, eP_st hc, if_neg h1, ev27 (d := d) (P := sts P) (s := sv (pk I0 m P)) hq (by omega) H (show pA P < 48 from pkc_lt h0 hm) hE]
    unfold stOf
    rw [if_neg h1]
theorem lp23 {dpI : Int32} {st : pd_P → pd_P} (hq : 9 ≤ q) (hd : q ≤ d) (H : pd_H I0 A c m) (hS : ∀ d P, q ≤ d → mm_ev xs Ls pd_ck pd_ak pd_mj d 24 [.ref (1 : Nat), .int dpI] (pd_st (pd_eP I0 c (P)) D A J n) = some (.inl none, (pd_st (pd_eP I0 c (st P)) D A J n))) : ∀ (f i : Nat) (P : pd_P), i + f = 48 → pd_G xs Ls d pd_m23 (7, [some (.ref (1 : Nat)), some (.int dpI), some (.int (Int32.ofNat i))], [], (pd_st (pd_eP I0 c (P)) D A J n)) (.inl none, (pd_st (pd_eP I0 c (bodyL I0 m st f P)) D A J n)) := by
  obtain ⟨hc, a10, a12, ac0, ac1, h11, hm, hch⟩ := id H
  intro f
  induction f with
  | zero =>
    intro i P hi
    simp only [p23_0, p23_1, p23_2, p23_5, p23_6, p23_7, p23_8, p23_10, p23_13, p23_14, p23_16, p23_19, p23_22, p23_23, p23_24, p23_27, p23_30, p23_33, mm_rV, qi1 sh1, so3_2i, mm_lA, mm_lI, mm_lD, mm_lJ, mm_ld0, mm_lds, pd_Kgo, pd_Kend, pd_Kno, pd_Kite, mm_i, mm_ii, mm_r, mm_1, mm_icmp, cond_true, cond_false, mm_o2, mm_c2, wt0, wt1, wt2, wt3, wt4, va_rfs, pd_bkv, pd_bkn, pd_bkif, pd_st1, Nat.reduceAdd, Nat.reduceLeDiff, Bool.or_false, Bool.or_self, pd_lt48 (x := i) (by omega), if_pos (show 48 ≤ i by omega)]
    rfl
  | succ f ih =>
    intro i P hi
    rw [p23_7]
    simp only [p23_0, p23_1, p23_2, p23_5, p23_6, p23_8, p23_10, p23_13, p23_14, p23_16, p23_19, p23_22, p23_23, p23_24, p23_27, p23_30, p23_33, mm_rV, qi1 sh1, so3_2i, mm_lA, mm_lI, mm_lD, mm_lJ, mm_ld0, mm_lds, pd_Kgo, pd_Kend, pd_Kno, pd_Kite, mm_i, mm_ii, mm_r, mm_1, mm_icmp, cond_true, cond_false, mm_o2, mm_c2, wt0, wt1, wt2, wt3, wt4, va_rfs, pd_bkv, pd_bkn, pd_bkif, pd_st1, Nat.reduceAdd, Nat.reduceLeDiff, Bool.or_false, Bool.or_self, pd_lt48 (x := i) (by omega), if_neg (show ¬ 48 ≤ i by omega), ev29i (d := d) (x := 59) (by omega) H (by decide), hS d _ (by omega), i10, if_false, if_true]
    unfold bodyL
    by_cases h1 : pk I0 m P = 59
    · simp only [if_pos h1, pd_suc]
      exact ih (i + 1) _ (by omega)
    · simp only [if_neg h1]
theorem ev23 {dpI : Int32} {st : pd_P → pd_P} (hq : 9 ≤ q) (hd : q + 1 ≤ d) (H : pd_H I0 A c m) (hS : ∀ d P, q ≤ d → mm_ev xs Ls pd_ck pd_ak pd_mj d 24 [.ref (1 : Nat), .int dpI] (pd_st (pd_eP I0 c (P)) D A J n) = some (.inl none, (pd_st (pd_eP I0 c (st P)) D A J n))) : mm_ev xs Ls pd_ck pd_ak pd_mj d 23 [.ref (1 : Nat), .int dpI] (pd_st (pd_eP I0 c (P)) D A J n) = some (.inl none, (pd_st (pd_eP I0 c (bodyL I0 m st 48 (st P))) D A J n)) := by
  obtain ⟨d, rfl⟩ : ∃ e, d = e + 1 := ⟨d - 1, by omega⟩
  obtain ⟨hc, a10, a12, ac0, ac1, h11, hm, hch⟩ := id H
  refine pd_ev_of (Nat.le_of_ble_eq_true rfl) ?_
  rw [show pd_mj 23 = pd_m23 from rfl, show mm_pad (mm_in [.ref (1 : Nat), .int dpI]) pd_m23.nL = [some (.ref (1 : Nat)), some (.int dpI), none] from rfl]
  simp only [p23_0, p23_1, p23_2, p23_5, p23_6, p23_8, p23_10, p23_13, p23_14, p23_16, p23_19, p23_22, p23_23, p23_24, p23_27, p23_30, p23_33, mm_rV, qi1 sh1, so3_2i, mm_lA, mm_lI, mm_lD, mm_lJ, mm_ld0, mm_lds, pd_Kgo, pd_Kend, pd_Kno, pd_Kite, mm_i, mm_ii, mm_r, mm_1, mm_icmp, cond_true, cond_false, mm_o2, mm_c2, wt0, wt1, wt2, wt3, wt4, va_rfs, pd_bkv, pd_bkn, pd_bkif, pd_st1, Nat.reduceAdd, Nat.reduceLeDiff, Bool.or_false, Bool.or_self, hS d _ (by omega)]
  exact lp23 hq (by omega) H hS 48 0 _ rfl
theorem ev23c (H : pd_H I0 A c m) : ∀ (k : Nat), k ≤ 5 → ∀ d P, 6 * k + 13 ≤ d → mm_ev xs Ls pd_ck pd_ak pd_mj d 23 [.ref (1 : Nat), .int (Int32.ofNat (5 - k))] (pd_st (pd_eP I0 c (P)) D A J n) = some (.inl none, (pd_st (pd_eP I0 c (cB I0 m k P)) D A J n)) := by
  intro k
  induction k with
  | zero =>
    intro _ d P hd
    refine ev23 (q := 12) (by omega) (by omega) H (fun d P hd => ?_)
    exact ev24 (q := 9) (by omega) (by omega) H (by omega) (fun d P hd => ev30c H (k := 0) (by omega) (by omega)) (fun h => absurd h (by omega)) (fun h => absurd h (by omega))
  | succ k ih =>
    intro hk5 d P hd
    have e : Int32.ofNat (4 - k) + 1 = Int32.ofNat (5 - k) := by rw [pd_suc, show 4 - k + 1 = 5 - k by omega]
    have e2 : 5 - (k + 1) = 4 - k := by omega
    refine ev23 (q := 6 * k + 18) (by omega) (by omega) H (fun d P hd => ?_)
    rw [e2]
    refine ev24 (q := 6 * k + 15) (by omega) (by omega) H (by omega) (fun d P hd => ?_) (fun h d P hd => ?_) (fun h d P hd => ?_)
    · rw [← e2]
      exact ev30c H (k := k + 1) (by omega) (by omega)
    · rw [e]
      exact ev30c H (k := k) (by omega) (by omega)
    · rw [e]
      exact ih (by omega) d P (by omega)
end PAR3
