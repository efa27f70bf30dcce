/-! THE REFERENCE's READER: first methods -/
def qem (Q : pq) (o a : Int32) : pq := sS (sA (sC Q (512 + qs Q) o) (512 + qs Q) a) (qs Q + 1)
def qpu (Q : pq) (mk : Int32) : pq := sH (sF (sO Q (qh Q) mk) (qh Q) (Int32.ofNat (qs Q))) (qh Q + 1)
def qab (Q : pq) : Int32 := if qh Q = 0 then 0 else qo Q (qh Q - 1)
def qop (Q : pq) (b : Bool) : pq := sR (sT Q (qt Q + 1)) (qt Q) (pd_b b)
def qwh (Q : pq) : pq := if qr Q (qt Q - 1) = 0 then sT Q (qt Q - 1) else sM (sT Q (qt Q - 1)) true
/-- rank -/
def rk (c : Int32) : Int32 := if c = 42 then 3 else if c = 47 then 3 else if c = 37 then 3 else if c = 43 then 2 else if c = 45 then 2 else if c = 60 then 1 else if c = 61 then 1 else 0
def qpd (Q : pq) (mk : Int32) : Int32 × pq := if qd Q = 5 then (-1, Q) else (if mk < 10 then 1 else 0, qpu (sD Q (qd Q + 1)) mk)
/-- over, once -/
def ov1 (Q : pq) : pq := sR (qem (sD (sH Q (qh Q - 1)) (qd Q - 1)) 5 0) (qt Q - 1) 0
def qov : Nat → pq → pq
  | 0, Q => Q
  | f + 1, Q => if qab Q = 8 then qov f (ov1 Q) else Q
/-- reduce, once: the mark c, and whether one of the two is real -/
def rany (Q : pq) : Bool := if qr Q (qt Q - 2) = 0 then (if qr Q (qt Q - 1) = 0 then false else true) else true
def red1 (Q : pq) : pq :=
  sR (qem (if qo Q (qh Q - 1) = 37 ∧ rany Q = true then sM (sT (sH Q (qh Q - 1)) (qt Q - 1)) true else sT (sH Q (qh Q - 1)) (qt Q - 1)) (qo Q (qh Q - 1)) (if qo Q (qh Q - 1) = 47 then 1 else pd_b (rany Q)))
    (qt Q - 2) (if qo Q (qh Q - 1) = 47 then 1 else if rk (qo Q (qh Q - 1)) ≤ 1 then 0 else if qo Q (qh Q - 1) = 37 then 0 else pd_b (rany Q))
def qred (r : Int32) : Nat → pq → pq
  | 0, Q => Q
  | f + 1, Q => if rk (qab Q) < r then Q else qred r f (red1 Q)
section REF1
variable {I0 I : pd_I} {D : pd_D} {A : pd_A} {J : pd_J} {n : Nat} {Q : pq} {xs : Nat → Int32} {Ls d : Nat} {q : Nat → Nat} {pc : Nat} {L : mm_L} {r : List Value}
theorem rm_0 : pd_RF q 43 0 = some 44 := rfl
theorem rm_1 : pd_RF q 43 1 = some 45 := rfl
theorem rm_2 : pd_RF q 43 2 = some 46 := rfl
theorem rm_3 : pd_RF q 43 3 = some 47 := rfl
theorem rm_4 : pd_RF q 43 4 = some 48 := rfl
theorem rm_5 : pd_RF q 43 5 = some 49 := rfl
theorem rm_6 : pd_RF q 43 6 = some 50 := rfl
theorem rm_7 : pd_RF q 43 7 = some 51 := rfl
theorem pd_512 {x : Nat} : (512 : Int32) + Int32.ofNat x = Int32.ofNat (512 + x) := by rw [show (512 : Int32) = Int32.ofNat 512 from rfl, ← Int32.ofNat_add]
theorem pd_sub1 {x : Nat} (h : 1 ≤ x) : Int32.ofNat x - 1 = Int32.ofNat (x - 1) := by
  have e : Int32.ofNat x = Int32.ofNat (x - 1) + 1 := by rw [pd_suc, show x - 1 + 1 = x by omega]
  rw [e, Int32.add_sub_cancel]
theorem pd_sub2 {x : Nat} (h : 2 ≤ x) : Int32.ofNat x - 2 = Int32.ofNat (x - 2) := by
  have e : Int32.ofNat x = Int32.ofNat (x - 2) + 2 := by rw [show (2 : Int32) = Int32.ofNat 2 from rfl, ← Int32.ofNat_add, show x - 2 + 2 = x by omega]
  rw [e, Int32.add_sub_cancel]
theorem pd_il {a k t mm : Nat} (h1 : pd_SH[a]? = some (.inr (t, mm))) (ht : mm_ty (pd_ak t) = 0) (hk : k < mm) (hm : mm ≤ 1000) : mm_ial xs Ls pd_ak pc L (pd_st I D A J n) (.int (Int32.ofNat k) :: .ref a :: r) = mm_go (pc + 1) L (.int (I a k) :: r) (pd_st I D A J n) := by
  show (mm_ai pd_ak (pd_st I D A J n) (.int (Int32.ofNat k) :: .ref a :: r) 0 fun i a r => mm_go (pc + 1) L (.int ((pd_st I D A J n).2.1.1 a i.toNatClampNeg) :: r) (pd_st I D A J n)) = _
  rw [pd_ai (ty := 0) h1 ht hk hm, pd_nn (by omega)]
  rfl
theorem pd_bl {a k mm : Nat} (h1 : pd_SH[a]? = some (.inr (4, mm))) (hk : k < mm) (hm : mm ≤ 1000) : (mm_ai pd_ak (pd_st I D A J n) (.int (Int32.ofNat k) :: .ref a :: r) 4 fun i a r => mm_go pc L (.int (I a i.toNatClampNeg) :: r) (pd_st I D A J n)) = mm_go pc L (.int (I a k) :: r) (pd_st I D A J n) := by
  rw [pd_ai (ty := 4) h1 rfl hk hm, pd_nn (by omega)]
theorem pd_bc {a k mm : Nat} {x : Int32} (h1 : pd_SH[a]? = some (.inr (4, mm))) (hk : k < mm) (hm : mm ≤ 1000) : (mm_ai pd_ak (pd_st I D A J n) (.int (Int32.ofNat k) :: .ref a :: r) 4 fun i a r => mm_go pc L r (mm_sI (pd_st I D A J n) a i.toNatClampNeg x)) = mm_go pc L r (pd_st (mm_u I a k x) D A J n) := by
  rw [pd_ai (ty := 4) h1 rfl hk hm, pd_nn (by omega)]
  rfl
theorem nar_b {b : Bool} : vp_nar .boolean (pd_b b) = pd_b b := by cases b <;> decide
theorem nar_0 : vp_nar .boolean (0 : Int32) = 0 := by decide
theorem nar_1 : vp_nar .boolean (1 : Int32) = 1 := by decide
theorem wQ_m1 : mm_u (eQ I0 Q) 43 16 1 = eQ I0 (sM Q true) := wQ_m (v := true)
theorem ev96 {o a : Int32} (hd : 1 ≤ d) (hs : qs Q < 128) : mm_ev xs Ls pd_ck pd_ak pd_mj d 96 [.ref (43 : Nat), .int o, .int a] (pd_st (eQ I0 (Q)) D (pd_RF q) J n) = some (.inl none, (pd_st (eQ I0 (qem Q o a)) D (pd_RF q) J n)) := by
  obtain ⟨d, rfl⟩ : ∃ e, d = e + 1 := ⟨d - 1, by omega⟩
  refine pd_ev_of (Nat.le_of_ble_eq_true rfl) ?_
  rw [show pd_mj 96 = pd_m96 from rfl, show mm_pad (mm_in [.ref (43 : Nat), .int o, .int a]) pd_m96.nL = [some (.ref (43 : Nat)), some (.int o), some (.int a)] from rfl]
  simp only [p96_0, p96_1, p96_4, p96_7, p96_8, p96_11, p96_12, p96_13, p96_14, p96_15, p96_18, p96_21, p96_22, p96_25, p96_26, p96_27, p96_28, p96_29, p96_30, p96_33, p96_34, p96_35, p96_38, gf7_1 sh43, gf7_12 sh43, gf7_2 sh43, mm_rV, pd_stI, pf7_12 sh43, mm_lA, mm_lI, mm_lD, mm_lJ, mm_ld0, mm_lds, pd_Kgo, pd_Kend, pd_Kno, pd_Kite, mm_i, mm_ii, mm_r, mm_1, mm_icmp, cond_true, cond_false, mm_o2, mm_c2, wt0, wt1, wt2, wt3, wt4, va_rfs, pd_bkv, pd_bkn, pd_bkif, pd_st1, Nat.reduceAdd, Nat.reduceLeDiff, Bool.or_false, Bool.or_self, rm_1, rm_2, eQ_s, pd_512, pd_ic (a := 45) (mm := 640) rfl (show 512 + qs Q < 640 by omega) (by omega), pd_ic (a := 46) (mm := 640) rfl (show 512 + qs Q < 640 by omega) (by omega), wQ_c, wQ_a, qs_sc, qs_sa, pd_suc, wQ_s]
  rfl
theorem ev103 {mk : Int32} (hd : 1 ≤ d) (hh : qh Q < 64) : mm_ev xs Ls pd_ck pd_ak pd_mj d 103 [.ref (43 : Nat), .int mk] (pd_st (eQ I0 (Q)) D (pd_RF q) J n) = some (.inl none, (pd_st (eQ I0 (qpu Q mk)) D (pd_RF q) J n)) := by
  obtain ⟨d, rfl⟩ : ∃ e, d = e + 1 := ⟨d - 1, by omega⟩
  refine pd_ev_of (Nat.le_of_ble_eq_true rfl) ?_
  rw [show pd_mj 103 = pd_m103 from rfl, show mm_pad (mm_in [.ref (43 : Nat), .int mk]) pd_m103.nL = [some (.ref (43 : Nat)), some (.int mk)] from rfl]
  simp only [p103_0, p103_1, p103_4, p103_5, p103_8, p103_9, p103_10, p103_11, p103_14, p103_15, p103_18, p103_19, p103_22, p103_23, p103_24, p103_25, p103_28, p103_29, p103_30, p103_33, gf7_10 sh43, gf7_12 sh43, gf7_5 sh43, gf7_6 sh43, mm_rV, pd_stI, pf7_10 sh43, mm_lA, mm_lI, mm_lD, mm_lJ, mm_ld0, mm_lds, pd_Kgo, pd_Kend, pd_Kno, pd_Kite, mm_i, mm_ii, mm_r, mm_1, mm_icmp, cond_true, cond_false, mm_o2, mm_c2, wt0, wt1, wt2, wt3, wt4, va_rfs, pd_bkv, pd_bkn, pd_bkif, pd_st1, Nat.reduceAdd, Nat.reduceLeDiff, Bool.or_false, Bool.or_self, rm_5, rm_6, eQ_h, eQ_s, pd_ic (a := 49) (mm := 64) rfl hh (by omega), pd_ic (a := 50) (mm := 64) rfl hh (by omega), wQ_o, wQ_f, qs_hh, qs_th, qs_sh, qs_dh, qs_gh, qs_nh, qs_mh, qs_oh, qs_fh, qs_rh, qs_ch, qs_ah, qs_xh, qs_ht, qs_tt, qs_st, qs_dt, qs_gt, qs_nt, qs_mt, qs_ot, qs_ft, qs_rt, qs_ct, qs_at, qs_xt, qs_hs, qs_ts, qs_ss, qs_ds, qs_gs, qs_ns, qs_ms, qs_os, qs_fs, qs_rs, qs_cs, qs_as, qs_xs, qs_hd, qs_td, qs_sd, qs_dd, qs_gd, qs_nd, qs_md, qs_od, qs_fd, qs_rd, qs_cd, qs_ad, qs_xd, qs_hg, qs_tg, qs_sg, qs_dg, qs_gg, qs_ng, qs_mg, qs_og, qs_fg, qs_rg, qs_cg, qs_ag, qs_xg, qs_hn, qs_tn, qs_sn, qs_dn, qs_gn, qs_nn, qs_mn, qs_on, qs_fn, qs_rn, qs_cn, qs_an, qs_xn, qs_hm, qs_tm, qs_sm, qs_dm, qs_gm, qs_nm, qs_mm, qs_om, qs_fm, qs_rm, qs_cm, qs_am, qs_xm, qs_ho, qs_to, qs_so, qs_do, qs_go, qs_no, qs_mo, qs_oo, qs_fo, qs_ro, qs_co, qs_ao, qs_xo, qs_hf, qs_tf, qs_sf, qs_df, qs_gf, qs_nf, qs_mf, qs_of, qs_ff, qs_rf, qs_cf, qs_af, qs_xf, qs_hr, qs_tr, qs_sr, qs_dr, qs_gr, qs_nr, qs_mr, qs_or, qs_fr, qs_rr, qs_cr, qs_ar, qs_xr, qs_hc, qs_tc, qs_sc, qs_dc, qs_gc, qs_nc, qs_mc, qs_oc, qs_fc, qs_rc, qs_cc, qs_ac, qs_xc, qs_ha, qs_ta, qs_sa, qs_da, qs_ga, qs_na, qs_ma, qs_oa, qs_fa, qs_ra, qs_ca, qs_aa, qs_xa, qs_hx, qs_tx, qs_sx, qs_dx, qs_gx, qs_nx, qs_mx, qs_ox, qs_fx, qs_rx, qs_cx, qs_ax, qs_xx, pd_suc, wQ_h]
  rfl
theorem pd_eq0 {x : Nat} (h : x ≤ 1000) : (Int32.ofNat x = 0) = (x = 0) := by
  rw [show (0 : Int32) = Int32.ofNat 0 from rfl, eq_iff_iff]
  constructor
  · intro h9
    have h8 := congrArg Int32.toInt h9
    rw [Int32.toInt_ofNat_of_lt (by omega), Int32.toInt_ofNat_of_lt (by omega)] at h8
    omega
  · intro h9; rw [h9]
theorem ev99 (hd : 1 ≤ d) (hh : qh Q ≤ 64) : mm_ev xs Ls pd_ck pd_ak pd_mj d 99 [.ref (43 : Nat)] (pd_st (eQ I0 (Q)) D (pd_RF q) J n) = some (.inl (some (.int (qab Q))), (pd_st (eQ I0 (Q)) D (pd_RF q) J n)) := by
  obtain ⟨d, rfl⟩ : ∃ e, d = e + 1 := ⟨d - 1, by omega⟩
  refine pd_ev_of (Nat.le_of_ble_eq_true rfl) ?_
  rw [show pd_mj 99 = pd_m99 from rfl, show mm_pad (mm_in [.ref (43 : Nat)]) pd_m99.nL = [some (.ref (43 : Nat))] from rfl]
  by_cases h : qh Q = 0
  · simp only [p99_0, p99_1, p99_4, p99_7, p99_8, p99_11, p99_12, p99_15, p99_16, p99_19, p99_20, p99_21, p99_22, gf7_10 sh43, gf7_5 sh43, mm_e0, mm_lA, mm_lI, mm_lD, mm_lJ, mm_ld0, mm_lds, pd_Kgo, pd_Kend, pd_Kno, pd_Kite, mm_i, mm_ii, mm_r, mm_1, mm_icmp, cond_true, cond_false, mm_o2, mm_c2, wt0, wt1, wt2, wt3, wt4, va_rfs, pd_bkv, pd_bkn, pd_bkif, pd_st1, Nat.reduceAdd, Nat.reduceLeDiff, Bool.or_false, Bool.or_self, eQ_h, pd_eq0 (x := qh Q) (by omega), if_pos h]
    unfold qab
    rw [if_pos h]
  · simp only [p99_0, p99_1, p99_4, p99_7, p99_8, p99_11, p99_12, p99_15, p99_16, p99_19, p99_20, p99_21, p99_22, gf7_10 sh43, gf7_5 sh43, mm_e0, mm_lA, mm_lI, mm_lD, mm_lJ, mm_ld0, mm_lds, pd_Kgo, pd_Kend, pd_Kno, pd_Kite, mm_i, mm_ii, mm_r, mm_1, mm_icmp, cond_true, cond_false, mm_o2, mm_c2, wt0, wt1, wt2, wt3, wt4, va_rfs, pd_bkv, pd_bkn, pd_bkif, pd_st1, Nat.reduceAdd, Nat.reduceLeDiff, Bool.or_false, Bool.or_self, rm_5, eQ_h, pd_eq0 (x := qh Q) (by omega), if_neg h, pd_sub1 (x := qh Q) (by omega), pd_il (a := 49) (t := 0) (mm := 64) rfl rfl (show qh Q - 1 < 64 by omega) (by omega), eQ_o]
    unfold qab
    rw [if_neg h]
theorem ev106 {c : Int32} {S : mm_St} (hd : 1 ≤ d) : mm_ev xs Ls pd_ck pd_ak pd_mj d 106 [.ref (43 : Nat), .int c] S = some (.inl (some (.int (rk c))), S) := by
  obtain ⟨d, rfl⟩ : ∃ e, d = e + 1 := ⟨d - 1, by omega⟩
  refine pd_ev_of (Nat.le_of_ble_eq_true rfl) ?_
  rw [show pd_mj 106 = pd_m106 from rfl, show mm_pad (mm_in [.ref (43 : Nat), .int c]) pd_m106.nL = [some (.ref (43 : Nat)), some (.int c)] from rfl]
  simp only [p106_0, p106_1, p106_3, p106_6, p106_7, p106_9, p106_12, p106_13, p106_15, p106_18, p106_19, p106_22, p106_23, p106_25, p106_28, p106_29, p106_31, p106_34, p106_35, p106_38, p106_39, p106_41, p106_44, p106_45, p106_47, p106_50, p106_51, p106_54, p106_55, mm_e0, mm_lA, mm_lI, mm_lD, mm_lJ, mm_ld0, mm_lds, pd_Kgo, pd_Kend, pd_Kno, pd_Kite, mm_i, mm_ii, mm_r, mm_1, mm_icmp, cond_true, cond_false, mm_o2, mm_c2, wt0, wt1, wt2, wt3, wt4, va_rfs, pd_bkv, pd_bkn, pd_bkif, pd_st1, Nat.reduceAdd, Nat.reduceLeDiff, Bool.or_false, Bool.or_self]
  unfold rk
  by_cases h1 : c = 42
  · simp [h1]
  · by_cases h2 : c = 47
    · simp [h2]
    · by_cases h3 : c = 37
      · simp [h3]
      · by_cases h4 : c = 43
        · simp [h4]
        · by_cases h5 : c = 45
          · simp [h5]
          · by_cases h6 : c = 60
            · simp [h6]
            · by_cases h7 : c = 61
              · simp [h7]
              · simp [h1, h2, h3, h4, h5, h6, h7]
theorem ev97 {b : Bool} (hd : 1 ≤ d) (ht : qt Q < 64) : mm_ev xs Ls pd_ck pd_ak pd_mj d 97 [.ref (43 : Nat), .int (pd_b b)] (pd_st (eQ I0 (Q)) D (pd_RF q) J n) = some (.inl none, (pd_st (eQ I0 (qop Q b)) D (pd_RF q) J n)) := by
  obtain ⟨d, rfl⟩ : ∃ e, d = e + 1 := ⟨d - 1, by omega⟩
  refine pd_ev_of (Nat.le_of_ble_eq_true rfl) ?_
  rw [show pd_mj 97 = pd_m97 from rfl, show mm_pad (mm_in [.ref (43 : Nat), .int (pd_b b)]) pd_m97.nL = [some (.ref (43 : Nat)), some (.int (pd_b b))] from rfl]
  simp only [p97_0, p97_1, p97_4, p97_5, p97_6, p97_9, p97_10, p97_11, p97_12, p97_15, p97_16, p97_17, gf7_11 sh43, gf7_7 sh43, mm_2, mm_rV, pd_stI, pf7_11 sh43, mm_lA, mm_lI, mm_lD, mm_lJ, mm_ld0, mm_lds, pd_Kgo, pd_Kend, pd_Kno, pd_Kite, mm_i, mm_ii, mm_r, mm_1, mm_icmp, cond_true, cond_false, mm_o2, mm_c2, wt0, wt1, wt2, wt3, wt4, va_rfs, pd_bkv, pd_bkn, pd_bkif, pd_st1, Nat.reduceAdd, Nat.reduceLeDiff, Bool.or_false, Bool.or_self, rm_7, eQ_t, pd_suc, wQ_t, pd_bc (a := 51) (mm := 64) rfl ht (by omega), nar_b, wQ_r]
  rfl
theorem ev110 (hd : 1 ≤ d) (ht1 : 1 ≤ qt Q) (ht : qt Q ≤ 64) : mm_ev xs Ls pd_ck pd_ak pd_mj d 110 [.ref (43 : Nat)] (pd_st (eQ I0 (Q)) D (pd_RF q) J n) = some (.inl none, (pd_st (eQ I0 (qwh Q)) D (pd_RF q) J n)) := by
  obtain ⟨d, rfl⟩ : ∃ e, d = e + 1 := ⟨d - 1, by omega⟩
  refine pd_ev_of (Nat.le_of_ble_eq_true rfl) ?_
  rw [show pd_mj 110 = pd_m110 from rfl, show mm_pad (mm_in [.ref (43 : Nat)]) pd_m110.nL = [some (.ref (43 : Nat))] from rfl]
  simp only [p110_0, p110_1, p110_4, p110_5, p110_6, p110_9, p110_10, p110_11, p110_12, p110_15, p110_16, p110_19, p110_20, p110_21, p110_24, gf7_11 sh43, gf7_7 sh43, mm_2, mm_rV, pd_stI, pf7_11 sh43, pf7_16 sh43, mm_lA, mm_lI, mm_lD, mm_lJ, mm_ld0, mm_lds, pd_Kgo, pd_Kend, pd_Kno, pd_Kite, mm_i, mm_ii, mm_r, mm_1, mm_icmp, cond_true, cond_false, mm_o2, mm_c2, wt0, wt1, wt2, wt3, wt4, va_rfs, pd_bkv, pd_bkn, pd_bkif, pd_st1, Nat.reduceAdd, Nat.reduceLeDiff, Bool.or_false, Bool.or_self, rm_7, eQ_t, pd_sub1 (x := qt Q) ht1, wQ_t, pd_bl (a := 51) (mm := 64) rfl (show qt Q - 1 < 64 by omega) (by omega), eQ_r, qs_hh, qs_th, qs_sh, qs_dh, qs_gh, qs_nh, qs_mh, qs_oh, qs_fh, qs_rh, qs_ch, qs_ah, qs_xh, qs_ht, qs_tt, qs_st, qs_dt, qs_gt, qs_nt, qs_mt, qs_ot, qs_ft, qs_rt, qs_ct, qs_at, qs_xt, qs_hs, qs_ts, qs_ss, qs_ds, qs_gs, qs_ns, qs_ms, qs_os, qs_fs, qs_rs, qs_cs, qs_as, qs_xs, qs_hd, qs_td, qs_sd, qs_dd, qs_gd, qs_nd, qs_md, qs_od, qs_fd, qs_rd, qs_cd, qs_ad, qs_xd, qs_hg, qs_tg, qs_sg, qs_dg, qs_gg, qs_ng, qs_mg, qs_og, qs_fg, qs_rg, qs_cg, qs_ag, qs_xg, qs_hn, qs_tn, qs_sn, qs_dn, qs_gn, qs_nn, qs_mn, qs_on, qs_fn, qs_rn, qs_cn, qs_an, qs_xn, qs_hm, qs_tm, qs_sm, qs_dm, qs_gm, qs_nm, qs_mm, qs_om, qs_fm, qs_rm, qs_cm, qs_am, qs_xm, qs_ho, qs_to, qs_so, qs_do, qs_go, qs_no, qs_mo, qs_oo, qs_fo, qs_ro, qs_co, qs_ao, qs_xo, qs_hf, qs_tf, qs_sf, qs_df, qs_gf, qs_nf, qs_mf, qs_of, qs_ff, qs_rf, qs_cf, qs_af, qs_xf, qs_hr, qs_tr, qs_sr, qs_dr, qs_gr, qs_nr, qs_mr, qs_or, qs_fr, qs_rr, qs_cr, qs_ar, qs_xr, qs_hc, qs_tc, qs_sc, qs_dc, qs_gc, qs_nc, qs_mc, qs_oc, qs_fc, qs_rc, qs_cc, qs_ac, qs_xc, qs_ha, qs_ta, qs_sa, qs_da, qs_ga, qs_na, qs_ma, qs_oa, qs_fa, qs_ra, qs_ca, qs_aa, qs_xa, qs_hx, qs_tx, qs_sx, qs_dx, qs_gx, qs_nx, qs_mx, qs_ox, qs_fx, qs_rx, qs_cx, qs_ax, qs_xx, or_true, wQ_m1]
  unfold qwh
  by_cases h : qr Q (qt Q - 1) = 0 <;> simp [h]
theorem ev105 {mk : Int32} (hd : 2 ≤ d) (hh : qh Q < 64) : mm_ev xs Ls pd_ck pd_ak pd_mj d 105 [.ref (43 : Nat), .int mk] (pd_st (eQ I0 (Q)) D (pd_RF q) J n) = some (.inl (some (.int (qpd Q mk).1)), (pd_st (eQ I0 ((qpd Q mk).2)) D (pd_RF q) J n)) := by
  obtain ⟨d, rfl⟩ : ∃ e, d = e + 1 := ⟨d - 1, by omega⟩
  have h9 : qh (sD Q (qd Q + 1)) < 64 := hh
  refine pd_ev_of (Nat.le_of_ble_eq_true rfl) ?_
  rw [show pd_mj 105 = pd_m105 from rfl, show mm_pad (mm_in [.ref (43 : Nat), .int mk]) pd_m105.nL = [some (.ref (43 : Nat)), some (.int mk)] from rfl]
  simp only [p105_0, p105_1, p105_4, p105_5, p105_8, p105_9, p105_10, p105_11, p105_12, p105_15, p105_16, p105_17, p105_20, p105_21, p105_22, p105_25, p105_26, p105_28, p105_31, p105_32, p105_35, p105_36, gf7_15 sh43, mm_e0, pf7_15 sh43, qi1 sh43, mm_lA, mm_lI, mm_lD, mm_lJ, mm_ld0, mm_lds, pd_Kgo, pd_Kend, pd_Kno, pd_Kite, mm_i, mm_ii, mm_r, mm_1, mm_icmp, cond_true, cond_false, mm_o2, mm_c2, wt0, wt1, wt2, wt3, wt4, va_rfs, pd_bkv, pd_bkn, pd_bkif, pd_st1, Nat.reduceAdd, Nat.reduceLeDiff, Bool.or_false, Bool.or_self, eQ_d, wQ_d, ev103 (d := d) (Q := sD Q (qd Q + 1)) (by omega) h9]
  unfold qpd
  by_cases h : qd Q = 5
  · simp [h]
  · by_cases h2 : mk < 10 <;> simp [h, h2]
/-- what over wants -/
def okO : Nat → pq → Prop
  | 0, Q => qab Q ≠ 8 ∧ qh Q ≤ 64
  | f + 1, Q => qh Q ≤ 64 ∧ (qab Q = 8 → qs Q < 128 ∧ 1 ≤ qt Q ∧ qt Q ≤ 64 ∧ okO f (ov1 Q))
theorem qab8 (h : qab Q = 8) : 1 ≤ qh Q := by
  unfold qab at h
  split at h
  · exact absurd h (by decide)
  · omega
theorem lp98 (hd : 1 ≤ d) : ∀ (f : Nat) (Q : pq), okO f Q → pd_G xs Ls d pd_m98 (0, [some (.ref (43 : Nat))], [], (pd_st (eQ I0 (Q)) D (pd_RF q) J n)) (.inl (some (.int 2)), (pd_st (eQ I0 (qov f Q)) D (pd_RF q) J n)) := by
  intro f
  induction f with
  | zero =>
    intro Q ⟨h1, h2⟩
    simp only [p98_0, p98_1, p98_4, p98_6, p98_9, p98_10, p98_11, p98_14, p98_15, p98_16, p98_19, p98_20, p98_21, p98_24, p98_25, p98_26, p98_29, p98_30, p98_31, p98_32, p98_35, p98_36, p98_39, p98_40, p98_43, p98_44, p98_45, p98_46, p98_47, p98_50, p98_51, gf7_10 sh43, gf7_11 sh43, gf7_15 sh43, gf7_7 sh43, mm_e0, pd_stI, pf7_10 sh43, pf7_15 sh43, qi0 sh43, qi2 sh43, mm_lA, mm_lI, mm_lD, mm_lJ, mm_ld0, mm_lds, pd_Kgo, pd_Kend, pd_Kno, pd_Kite, mm_i, mm_ii, mm_r, mm_1, mm_icmp, cond_true, cond_false, mm_o2, mm_c2, wt0, wt1, wt2, wt3, wt4, va_rfs, pd_bkv, pd_bkn, pd_bkif, pd_st1, Nat.reduceAdd, Nat.reduceLeDiff, Bool.or_false, Bool.or_self, ev99 (d := d) hd h2, if_neg h1]
    rfl
  | succ f ih =>
    intro Q ⟨h2, hk⟩
    rw [p98_0]
    unfold qov
    by_cases h : qab Q = 8
    · obtain ⟨k1, k2, k3, k4⟩ := hk h
      have hh := qab8 h
      simp only [p98_1, p98_4, p98_6, p98_9, p98_10, p98_11, p98_14, p98_15, p98_16, p98_19, p98_20, p98_21, p98_24, p98_25, p98_26, p98_29, p98_30, p98_31, p98_32, p98_35, p98_36, p98_39, p98_40, p98_43, p98_44, p98_45, p98_46, p98_47, p98_50, p98_51, gf7_10 sh43, gf7_11 sh43, gf7_15 sh43, gf7_7 sh43, mm_e0, pd_stI, pf7_10 sh43, pf7_15 sh43, qi0 sh43, qi2 sh43, mm_lA, mm_lI, mm_lD, mm_lJ, mm_ld0, mm_lds, pd_Kgo, pd_Kend, pd_Kno, pd_Kite, mm_i, mm_ii, mm_r, mm_1, mm_icmp, cond_true, cond_false, mm_o2, mm_c2, wt0, wt1, wt2, wt3, wt4, va_rfs, pd_bkv, pd_bkn, pd_bkif, pd_st1, Nat.reduceAdd, Nat.reduceLeDiff, Bool.or_false, Bool.or_self, ev99 (d := d) hd h2, if_pos h, eQ_h, eQ_d, eQ_t, pd_sub1 (x := qh Q) hh, wQ_h, wQ_d, qs_hh, qs_th, qs_sh, qs_dh, qs_gh, qs_nh, qs_mh, qs_oh, qs_fh, qs_rh, qs_ch, qs_ah, qs_xh, qs_ht, qs_tt, qs_st, qs_dt, qs_gt, qs_nt, qs_mt, qs_ot, qs_ft, qs_rt, qs_ct, qs_at, qs_xt, qs_hs, qs_ts, qs_ss, qs_ds, qs_gs, qs_ns, qs_ms, qs_os, qs_fs, qs_rs, qs_cs, qs_as, qs_xs, qs_hd, qs_td, qs_sd, qs_dd, qs_gd, qs_nd, qs_md, qs_od, qs_fd, qs_rd, qs_cd, qs_ad, qs_xd, qs_hg, qs_tg, qs_sg, qs_dg, qs_gg, qs_ng, qs_mg, qs_og, qs_fg, qs_rg, qs_cg, qs_ag, qs_xg, qs_hn, qs_tn, qs_sn, qs_dn, qs_gn, qs_nn, qs_mn, qs_on, qs_fn, qs_rn, qs_cn, qs_an, qs_xn, qs_hm, qs_tm, qs_sm, qs_dm, qs_gm, qs_nm, qs_mm, qs_om, qs_fm, qs_rm, qs_cm, qs_am, qs_xm, qs_ho, qs_to, qs_so, qs_do, qs_go, qs_no, qs_mo, qs_oo, qs_fo, qs_ro, qs_co, qs_ao, qs_xo, qs_hf, qs_tf, qs_sf, qs_df, qs_gf, qs_nf, qs_mf, qs_of, qs_ff, qs_rf, qs_cf, qs_af, qs_xf, qs_hr, qs_tr, qs_sr, qs_dr, qs_gr, qs_nr, qs_mr, qs_or, qs_fr, qs_rr, qs_cr, qs_ar, qs_xr, qs_hc, qs_tc, qs_sc, qs_dc, qs_gc, qs_nc, qs_mc, qs_oc, qs_fc, qs_rc, qs_cc, qs_ac, qs_xc, qs_ha, qs_ta, qs_sa, qs_da, qs_ga, qs_na, qs_ma, qs_oa, qs_fa, qs_ra, qs_ca, qs_aa, qs_xa, qs_hx, qs_tx, qs_sx, qs_dx, qs_gx, qs_nx, qs_mx, qs_ox, qs_fx, qs_rx, qs_cx, qs_ax, qs_xx, ev96 (d := d) (Q := sD (sH Q (qh Q - 1)) (qd Q - 1)) (by omega) k1, rm_7, nar_0, show qt (qem (sD (sH Q (qh Q - 1)) (qd Q - 1)) 5 0) = qt Q from rfl, pd_sub1 (x := qt Q) k2, pd_bc (a := 51) (mm := 64) rfl (show qt Q - 1 < 64 by omega) (by omega), wQ_r]
      exact ih (ov1 Q) k4
    · simp only [p98_1, p98_4, p98_6, p98_9, p98_10, p98_11, p98_14, p98_15, p98_16, p98_19, p98_20, p98_21, p98_24, p98_25, p98_26, p98_29, p98_30, p98_31, p98_32, p98_35, p98_36, p98_39, p98_40, p98_43, p98_44, p98_45, p98_46, p98_47, p98_50, p98_51, gf7_10 sh43, gf7_11 sh43, gf7_15 sh43, gf7_7 sh43, mm_e0, pd_stI, pf7_10 sh43, pf7_15 sh43, qi0 sh43, qi2 sh43, mm_lA, mm_lI, mm_lD, mm_lJ, mm_ld0, mm_lds, pd_Kgo, pd_Kend, pd_Kno, pd_Kite, mm_i, mm_ii, mm_r, mm_1, mm_icmp, cond_true, cond_false, mm_o2, mm_c2, wt0, wt1, wt2, wt3, wt4, va_rfs, pd_bkv, pd_bkn, pd_bkif, pd_st1, Nat.reduceAdd, Nat.reduceLeDiff, Bool.or_false, Bool.or_self, ev99 (d := d) hd h2, if_neg h]
theorem ev98 {f : Nat} (hd : 2 ≤ d) (h : okO f Q) : mm_ev xs Ls pd_ck pd_ak pd_mj d 98 [.ref (43 : Nat)] (pd_st (eQ I0 (Q)) D (pd_RF q) J n) = some (.inl (some (.int 2)), (pd_st (eQ I0 (qov f Q)) D (pd_RF q) J n)) := by
  obtain ⟨d, rfl⟩ : ∃ e, d = e + 1 := ⟨d - 1, by omega⟩
  refine pd_ev_of (Nat.le_of_ble_eq_true rfl) ?_
  rw [show pd_mj 98 = pd_m98 from rfl, show mm_pad (mm_in [.ref (43 : Nat)]) pd_m98.nL = [some (.ref (43 : Nat))] from rfl]
  exact lp98 (by omega) f Q h
/-- what reduce wants -/
def okR (r : Int32) : Nat → pq → Prop
  | 0, Q => rk (qab Q) < r ∧ qh Q ≤ 64
  | f + 1, Q => qh Q ≤ 64 ∧ (¬ rk (qab Q) < r → 1 ≤ qh Q ∧ qs Q < 128 ∧ 2 ≤ qt Q ∧ qt Q ≤ 64 ∧ okR r f (red1 Q))
theorem lp108 {r : Int32} (hd : 1 ≤ d) : ∀ (f : Nat) (Q : pq) (a2 a3 : Option Value), mm_o2 a2 = false → okR r f Q → pd_G xs Ls d pd_m108 (0, [some (.ref (43 : Nat)), some (.int r), a2, a3], [], (pd_st (eQ I0 (Q)) D (pd_RF q) J n)) (.inl none, (pd_st (eQ I0 (qred r f Q)) D (pd_RF q) J n)) := by
  intro f
  induction f with
  | zero =>
    intro Q a2 a3 h9 ⟨h1, h2⟩
    simp only [p108_0, p108_1, p108_2, p108_5, p108_8, p108_9, p108_12, p108_13, p108_16, p108_17, p108_18, p108_21, p108_22, p108_23, p108_24, p108_27, p108_28, p108_29, p108_30, p108_33, p108_34, p108_37, p108_38, p108_39, p108_40, p108_43, p108_44, p108_47, p108_48, p108_51, p108_52, p108_53, p108_54, p108_57, p108_58, p108_61, p108_62, p108_63, p108_64, p108_65, p108_68, p108_69, p108_70, p108_73, p108_74, p108_76, p108_79, p108_80, p108_83, p108_84, p108_85, p108_88, p108_89, p108_90, p108_91, p108_93, p108_96, p108_97, p108_100, p108_101, p108_104, p108_105, p108_108, p108_109, p108_112, p108_113, p108_116, p108_117, p108_118, p108_119, p108_121, p108_124, p108_125, p108_126, p108_129, p108_130, p108_133, p108_134, p108_136, p108_139, p108_140, p108_143, p108_144, p108_147, p108_148, p108_149, p108_152, gf7_10 sh43, gf7_11 sh43, gf7_5 sh43, gf7_7 sh43, mm_2, mm_rV, pd_stI, pf7_10 sh43, pf7_11 sh43, pf7_16 sh43, qi0 sh43, qi1 sh43, qi2 sh43, so4_2i, so4_3i, mm_lA, mm_lI, mm_lD, mm_lJ, mm_ld0, mm_lds, pd_Kgo, pd_Kend, pd_Kno, pd_Kite, mm_i, mm_ii, mm_r, mm_1, mm_icmp, cond_true, cond_false, mm_o2, mm_c2, wt0, wt1, wt2, wt3, wt4, va_rfs, pd_bkv, pd_bkn, pd_bkif, pd_st1, Nat.reduceAdd, Nat.reduceLeDiff, Bool.or_false, Bool.or_self, ev99 (d := d) hd h2, ev106 (d := d) hd, if_pos h1]
    rfl
  | succ f ih =>
    intro Q a2 a3 h9 ⟨h2, hk⟩
    rw [p108_0]
    unfold qred
    by_cases h : rk (qab Q) < r
    · simp only [p108_1, p108_2, p108_5, p108_8, p108_9, p108_12, p108_13, p108_16, p108_17, p108_18, p108_21, p108_22, p108_23, p108_24, p108_27, p108_28, p108_29, p108_30, p108_33, p108_34, p108_37, p108_38, p108_39, p108_40, p108_43, p108_44, p108_47, p108_48, p108_51, p108_52, p108_53, p108_54, p108_57, p108_58, p108_61, p108_62, p108_63, p108_64, p108_65, p108_68, p108_69, p108_70, p108_73, p108_74, p108_76, p108_79, p108_80, p108_83, p108_84, p108_85, p108_88, p108_89, p108_90, p108_91, p108_93, p108_96, p108_97, p108_100, p108_101, p108_104, p108_105, p108_108, p108_109, p108_112, p108_113, p108_116, p108_117, p108_118, p108_119, p108_121, p108_124, p108_125, p108_126, p108_129, p108_130, p108_133, p108_134, p108_136, p108_139, p108_140, p108_143, p108_144, p108_147, p108_148, p108_149, p108_152, gf7_10 sh43, gf7_11 sh43, gf7_5 sh43, gf7_7 sh43, mm_2, mm_rV, pd_stI, pf7_10 sh43, pf7_11 sh43, pf7_16 sh43, qi0 sh43, qi1 sh43, qi2 sh43, so4_2i, so4_3i, mm_lA, mm_lI, mm_lD, mm_lJ, mm_ld0, mm_lds, pd_Kgo, pd_Kend, pd_Kno, pd_Kite, mm_i, mm_ii, mm_r, mm_1, mm_icmp, cond_true, cond_false, mm_o2, mm_c2, wt0, wt1, wt2, wt3, wt4, va_rfs, pd_bkv, pd_bkn, pd_bkif, pd_st1, Nat.reduceAdd, Nat.reduceLeDiff, Bool.or_false, Bool.or_self, ev99 (d := d) hd h2, ev106 (d := d) hd, if_pos h]
    · obtain ⟨k1, k2, k3, k4, k5⟩ := hk h
      have hex : ∀ (Q' : pq) (o a : Int32), qs Q' = qs Q → mm_ev xs Ls pd_ck pd_ak pd_mj d 96 [.ref (43 : Nat), .int o, .int a] (pd_st (eQ I0 (Q')) D (pd_RF q) J n) = some (.inl none, (pd_st (eQ I0 (qem Q' o a)) D (pd_RF q) J n)) := fun Q' o a e => ev96 hd (by rw [e]; exact k2)
      have hK : ∀ (Qx : pq) (a any : Int32), qs Qx = qs Q → qt Qx = qt Q - 1 → (any = 0 ∨ any = 1) → (pd_K xs Ls d pd_m108 (mm_back pd_m108 105 [some (.ref (43 : Nat)), some (.int r), some (.int (qo Q (qh Q - 1))), some (.int any)] [] (mm_ev xs Ls pd_ck pd_ak pd_mj d 96 [.ref (43 : Nat), .int (qo Q (qh Q - 1)), .int a] (pd_st (eQ I0 (Qx)) D (pd_RF q) J n))) (.inl none, (pd_st (eQ I0 (qred r f (red1 Q))) D (pd_RF q) J n)) ↔ pd_G xs Ls d pd_m108 (0, [some (.ref (43 : Nat)), some (.int r), some (.int (qo Q (qh Q - 1))), some (.int any)], [], (pd_st (eQ I0 (sR (qem Qx (qo Q (qh Q - 1)) a) (qt Q - 2) (if qo Q (qh Q - 1) = 47 then 1 else if rk (qo Q (qh Q - 1)) ≤ 1 then 0 else if qo Q (qh Q - 1) = 37 then 0 else any))) D (pd_RF q) J n)) (.inl none, (pd_st (eQ I0 (qred r f (red1 Q))) D (pd_RF q) J n))) := by
        intro Qx a any e1 e2 e3
        rw [hex Qx _ a e1]
        have e4 : qt (qem Qx (qo Q (qh Q - 1)) a) = qt Q - 1 := e2
        generalize qo Q (qh Q - 1) = c at *
        by_cases c1 : c = 47
        · simp only [p108_1, p108_2, p108_5, p108_8, p108_9, p108_12, p108_13, p108_16, p108_17, p108_18, p108_21, p108_22, p108_23, p108_24, p108_27, p108_28, p108_29, p108_30, p108_33, p108_34, p108_37, p108_38, p108_39, p108_40, p108_43, p108_44, p108_47, p108_48, p108_51, p108_52, p108_53, p108_54, p108_57, p108_58, p108_61, p108_62, p108_63, p108_64, p108_65, p108_68, p108_69, p108_70, p108_73, p108_74, p108_76, p108_79, p108_80, p108_83, p108_84, p108_85, p108_88, p108_89, p108_90, p108_91, p108_93, p108_96, p108_97, p108_100, p108_101, p108_104, p108_105, p108_108, p108_109, p108_112, p108_113, p108_116, p108_117, p108_118, p108_119, p108_121, p108_124, p108_125, p108_126, p108_129, p108_130, p108_133, p108_134, p108_136, p108_139, p108_140, p108_143, p108_144, p108_147, p108_148, p108_149, p108_152, gf7_10 sh43, gf7_11 sh43, gf7_5 sh43, gf7_7 sh43, mm_2, mm_rV, pd_stI, pf7_10 sh43, pf7_11 sh43, pf7_16 sh43, qi0 sh43, qi1 sh43, qi2 sh43, so4_2i, so4_3i, mm_lA, mm_lI, mm_lD, mm_lJ, mm_ld0, mm_lds, pd_Kgo, pd_Kend, pd_Kno, pd_Kite, mm_i, mm_ii, mm_r, mm_1, mm_icmp, cond_true, cond_false, mm_o2, mm_c2, wt0, wt1, wt2, wt3, wt4, va_rfs, pd_bkv, pd_bkn, pd_bkif, pd_st1, Nat.reduceAdd, Nat.reduceLeDiff, Bool.or_false, Bool.or_self, rm_7, eQ_t, e4, pd_sub1 (x := qt Q - 1) (by omega), show qt Q - 1 - 1 = qt Q - 2 by omega, ev106 (d := d) hd, if_pos c1, pd_bc (a := 51) (mm := 64) rfl (show qt Q - 2 < 64 by omega) (by omega), nar_1, wQ_r]
        · by_cases c2 : rk c ≤ 1
          · simp only [p108_1, p108_2, p108_5, p108_8, p108_9, p108_12, p108_13, p108_16, p108_17, p108_18, p108_21, p108_22, p108_23, p108_24, p108_27, p108_28, p108_29, p108_30, p108_33, p108_34, p108_37, p108_38, p108_39, p108_40, p108_43, p108_44, p108_47, p108_48, p108_51, p108_52, p108_53, p108_54, p108_57, p108_58, p108_61, p108_62, p108_63, p108_64, p108_65, p108_68, p108_69, p108_70, p108_73, p108_74, p108_76, p108_79, p108_80, p108_83, p108_84, p108_85, p108_88, p108_89, p108_90, p108_91, p108_93, p108_96, p108_97, p108_100, p108_101, p108_104, p108_105, p108_108, p108_109, p108_112, p108_113, p108_116, p108_117, p108_118, p108_119, p108_121, p108_124, p108_125, p108_126, p108_129, p108_130, p108_133, p108_134, p108_136, p108_139, p108_140, p108_143, p108_144, p108_147, p108_148, p108_149, p108_152, gf7_10 sh43, gf7_11 sh43, gf7_5 sh43, gf7_7 sh43, mm_2, mm_rV, pd_stI, pf7_10 sh43, pf7_11 sh43, pf7_16 sh43, qi0 sh43, qi1 sh43, qi2 sh43, so4_2i, so4_3i, mm_lA, mm_lI, mm_lD, mm_lJ, mm_ld0, mm_lds, pd_Kgo, pd_Kend, pd_Kno, pd_Kite, mm_i, mm_ii, mm_r, mm_1, mm_icmp, cond_true, cond_false, mm_o2, mm_c2, wt0, wt1, wt2, wt3, wt4, va_rfs, pd_bkv, pd_bkn, pd_bkif, pd_st1, Nat.reduceAdd, Nat.reduceLeDiff, Bool.or_false, Bool.or_self, rm_7, eQ_t, e4, pd_sub1 (x := qt Q - 1) (by omega), show qt Q - 1 - 1 = qt Q - 2 by omega, ev106 (d := d) hd, if_neg c1, if_pos c2, pd_bc (a := 51) (mm := 64) rfl (show qt Q - 2 < 64 by omega) (by omega), nar_0, wQ_r]
          · by_cases c3 : c = 37
            · simp only [p108_1, p108_2, p108_5, p108_8, p108_9, p108_12, p108_13, p108_16, p108_17, p108_18, p108_21, p108_22, p108_23, p108_24, p108_27, p108_28, p108_29, p108_30, p108_33, p108_34, p108_37, p108_38, p108_39, p108_40, p108_43, p108_44, p108_47, p108_48, p108_51, p108_52, p108_53, p108_54, p108_57, p108_58, p108_61, p108_62, p108_63, p108_64, p108_65, p108_68, p108_69, p108_70, p108_73, p108_74, p108_76, p108_79, p108_80, p108_83, p108_84, p108_85, p108_88, p108_89, p108_90, p108_91, p108_93, p108_96, p108_97, p108_100, p108_101, p108_104, p108_105, p108_108, p108_109, p108_112, p108_113, p108_116, p108_117, p108_118, p108_119, p108_121, p108_124, p108_125, p108_126, p108_129, p108_130, p108_133, p108_134, p108_136, p108_139, p108_140, p108_143, p108_144, p108_147, p108_148, p108_149, p108_152, gf7_10 sh43, gf7_11 sh43, gf7_5 sh43, gf7_7 sh43, mm_2, mm_rV, pd_stI, pf7_10 sh43, pf7_11 sh43, pf7_16 sh43, qi0 sh43, qi1 sh43, qi2 sh43, so4_2i, so4_3i, mm_lA, mm_lI, mm_lD, mm_lJ, mm_ld0, mm_lds, pd_Kgo, pd_Kend, pd_Kno, pd_Kite, mm_i, mm_ii, mm_r, mm_1, mm_icmp, cond_true, cond_false, mm_o2, mm_c2, wt0, wt1, wt2, wt3, wt4, va_rfs, pd_bkv, pd_bkn, pd_bkif, pd_st1, Nat.reduceAdd, Nat.reduceLeDiff, Bool.or_false, Bool.or_self, rm_7, eQ_t, e4, pd_sub1 (x := qt Q - 1) (by omega), show qt Q - 1 - 1 = qt Q - 2 by omega, ev106 (d := d) hd, if_neg c1, if_neg c2, if_pos c3, pd_bc (a := 51) (mm := 64) rfl (show qt Q - 2 < 64 by omega) (by omega), nar_0, wQ_r]
            · rcases e3 with rfl | rfl
              · simp only [p108_1, p108_2, p108_5, p108_8, p108_9, p108_12, p108_13, p108_16, p108_17, p108_18, p108_21, p108_22, p108_23, p108_24, p108_27, p108_28, p108_29, p108_30, p108_33, p108_34, p108_37, p108_38, p108_39, p108_40, p108_43, p108_44, p108_47, p108_48, p108_51, p108_52, p108_53, p108_54, p108_57, p108_58, p108_61, p108_62, p108_63, p108_64, p108_65, p108_68, p108_69, p108_70, p108_73, p108_74, p108_76, p108_79, p108_80, p108_83, p108_84, p108_85, p108_88, p108_89, p108_90, p108_91, p108_93, p108_96, p108_97, p108_100, p108_101, p108_104, p108_105, p108_108, p108_109, p108_112, p108_113, p108_116, p108_117, p108_118, p108_119, p108_121, p108_124, p108_125, p108_126, p108_129, p108_130, p108_133, p108_134, p108_136, p108_139, p108_140, p108_143, p108_144, p108_147, p108_148, p108_149, p108_152, gf7_10 sh43, gf7_11 sh43, gf7_5 sh43, gf7_7 sh43, mm_2, mm_rV, pd_stI, pf7_10 sh43, pf7_11 sh43, pf7_16 sh43, qi0 sh43, qi1 sh43, qi2 sh43, so4_2i, so4_3i, mm_lA, mm_lI, mm_lD, mm_lJ, mm_ld0, mm_lds, pd_Kgo, pd_Kend, pd_Kno, pd_Kite, mm_i, mm_ii, mm_r, mm_1, mm_icmp, cond_true, cond_false, mm_o2, mm_c2, wt0, wt1, wt2, wt3, wt4, va_rfs, pd_bkv, pd_bkn, pd_bkif, pd_st1, Nat.reduceAdd, Nat.reduceLeDiff, Bool.or_false, Bool.or_self, rm_7, eQ_t, e4, pd_sub1 (x := qt Q - 1) (by omega), show qt Q - 1 - 1 = qt Q - 2 by omega, ev106 (d := d) hd, if_neg c1, if_neg c2, if_neg c3, if_true, pd_bc (a := 51) (mm := 64) rfl (show qt Q - 2 < 64 by omega) (by omega), nar_0, wQ_r]
              · simp only [p108_1, p108_2, p108_5, p108_8, p108_9, p108_12, p108_13, p108_16, p108_17, p108_18, p108_21, p108_22, p108_23, p108_24, p108_27, p108_28, p108_29, p108_30, p108_33, p108_34, p108_37, p108_38, p108_39, p108_40, p108_43, p108_44, p108_47, p108_48, p108_51, p108_52, p108_53, p108_54, p108_57, p108_58, p108_61, p108_62, p108_63, p108_64, p108_65, p108_68, p108_69, p108_70, p108_73, p108_74, p108_76, p108_79, p108_80, p108_83, p108_84, p108_85, p108_88, p108_89, p108_90, p108_91, p108_93, p108_96, p108_97, p108_100, p108_101, p108_104, p108_105, p108_108, p108_109, p108_112, p108_113, p108_116, p108_117, p108_118, p108_119, p108_121, p108_124, p108_125, p108_126, p108_129, p108_130, p108_133, p108_134, p108_136, p108_139, p108_140, p108_143, p108_144, p108_147, p108_148, p108_149, p108_152, gf7_10 sh43, gf7_11 sh43, gf7_5 sh43, gf7_7 sh43, mm_2, mm_rV, pd_stI, pf7_10 sh43, pf7_11 sh43, pf7_16 sh43, qi0 sh43, qi1 sh43, qi2 sh43, so4_2i, so4_3i, mm_lA, mm_lI, mm_lD, mm_lJ, mm_ld0, mm_lds, pd_Kgo, pd_Kend, pd_Kno, pd_Kite, mm_i, mm_ii, mm_r, mm_1, mm_icmp, cond_true, cond_false, mm_o2, mm_c2, wt0, wt1, wt2, wt3, wt4, va_rfs, pd_bkv, pd_bkn, pd_bkif, pd_st1, Nat.reduceAdd, Nat.reduceLeDiff, Bool.or_false, Bool.or_self, rm_7, eQ_t, e4, pd_sub1 (x := qt Q - 1) (by omega), show qt Q - 1 - 1 = qt Q - 2 by omega, ev106 (d := d) hd, if_neg c1, if_neg c2, if_neg c3, i10, if_false, pd_bc (a := 51) (mm := 64) rfl (show qt Q - 2 < 64 by omega) (by omega), nar_1, wQ_r]
      rw [if_neg h]
      have hI := fun any => ih (red1 Q) (some (.int (qo Q (qh Q - 1)))) (some (.int any)) rfl k5
      simp only [p108_1, p108_2, p108_5, p108_8, p108_9, p108_12, p108_13, p108_16, p108_17, p108_18, p108_21, p108_22, p108_23, p108_24, p108_27, p108_28, p108_29, p108_30, p108_33, p108_34, p108_37, p108_38, p108_39, p108_40, p108_43, p108_44, p108_47, p108_48, p108_51, p108_52, p108_53, p108_54, p108_57, p108_58, p108_61, p108_62, p108_63, p108_64, p108_65, p108_68, p108_69, p108_70, p108_73, p108_74, p108_76, p108_79, p108_80, p108_83, p108_84, p108_85, p108_88, p108_89, p108_90, p108_91, p108_93, p108_96, p108_97, p108_100, p108_101, p108_104, p108_105, p108_108, p108_109, p108_112, p108_113, p108_116, p108_117, p108_118, p108_119, p108_121, p108_124, p108_125, p108_126, p108_129, p108_130, p108_133, p108_134, p108_136, p108_139, p108_140, p108_143, p108_144, p108_147, p108_148, p108_149, p108_152, gf7_10 sh43, gf7_11 sh43, gf7_5 sh43, gf7_7 sh43, mm_2, mm_rV, pd_stI, pf7_10 sh43, pf7_11 sh43, pf7_16 sh43, qi0 sh43, qi1 sh43, qi2 sh43, so4_2i, so4_3i, mm_lA, mm_lI, mm_lD, mm_lJ, mm_ld0, mm_lds, pd_Kgo, pd_Kend, pd_Kno, pd_Kite, mm_i, mm_ii, mm_r, mm_1, mm_icmp, cond_true, cond_false, mm_o2, mm_c2, wt0, wt1, wt2, wt3, wt4, va_rfs, pd_bkv, pd_bkn, pd_bkif, pd_st1, Nat.reduceAdd, Nat.reduceLeDiff, Bool.or_false, Bool.or_self, ev99 (d := d) hd h2, ev106 (d := d) hd, if_neg h, rm_5, rm_7, eQ_h, eQ_t, pd_sub1 (x := qh Q) k1, wQ_h, qs_hh, qs_th, qs_sh, qs_dh, qs_gh, qs_nh, qs_mh, qs_oh, qs_fh, qs_rh, qs_ch, qs_ah, qs_xh, qs_ht, qs_tt, qs_st, qs_dt, qs_gt, qs_nt, qs_mt, qs_ot, qs_ft, qs_rt, qs_ct, qs_at, qs_xt, qs_hs, qs_ts, qs_ss, qs_ds, qs_gs, qs_ns, qs_ms, qs_os, qs_fs, qs_rs, qs_cs, qs_as, qs_xs, qs_hd, qs_td, qs_sd, qs_dd, qs_gd, qs_nd, qs_md, qs_od, qs_fd, qs_rd, qs_cd, qs_ad, qs_xd, qs_hg, qs_tg, qs_sg, qs_dg, qs_gg, qs_ng, qs_mg, qs_og, qs_fg, qs_rg, qs_cg, qs_ag, qs_xg, qs_hn, qs_tn, qs_sn, qs_dn, qs_gn, qs_nn, qs_mn, qs_on, qs_fn, qs_rn, qs_cn, qs_an, qs_xn, qs_hm, qs_tm, qs_sm, qs_dm, qs_gm, qs_nm, qs_mm, qs_om, qs_fm, qs_rm, qs_cm, qs_am, qs_xm, qs_ho, qs_to, qs_so, qs_do, qs_go, qs_no, qs_mo, qs_oo, qs_fo, qs_ro, qs_co, qs_ao, qs_xo, qs_hf, qs_tf, qs_sf, qs_df, qs_gf, qs_nf, qs_mf, qs_of, qs_ff, qs_rf, qs_cf, qs_af, qs_xf, qs_hr, qs_tr, qs_sr, qs_dr, qs_gr, qs_nr, qs_mr, qs_or, qs_fr, qs_rr, qs_cr, qs_ar, qs_xr, qs_hc, qs_tc, qs_sc, qs_dc, qs_gc, qs_nc, qs_mc, qs_oc, qs_fc, qs_rc, qs_cc, qs_ac, qs_xc, qs_ha, qs_ta, qs_sa, qs_da, qs_ga, qs_na, qs_ma, qs_oa, qs_fa, qs_ra, qs_ca, qs_aa, qs_xa, qs_hx, qs_tx, qs_sx, qs_dx, qs_gx, qs_nx, qs_mx, qs_ox, qs_fx, qs_rx, qs_cx, qs_ax, qs_xx, pd_il (a := 49) (t := 0) (mm := 64) rfl rfl (show qh Q - 1 < 64 by omega) (by omega), eQ_o, h9, pd_sub2 (x := qt Q) k3, pd_sub1 (x := qt Q) (show 1 ≤ qt Q by omega), pd_bl (a := 51) (mm := 64) rfl (show qt Q - 2 < 64 by omega) (by omega), pd_bl (a := 51) (mm := 64) rfl (show qt Q - 1 < 64 by omega) (by omega), eQ_r, wQ_t, wQ_m1, or_true]
      have hF : ∀ (Qx : pq) (a any : Int32), qs Qx = qs Q → qt Qx = qt Q - 1 → (any = 0 ∨ any = 1) → red1 Q = sR (qem Qx (qo Q (qh Q - 1)) a) (qt Q - 2) (if qo Q (qh Q - 1) = 47 then 1 else if rk (qo Q (qh Q - 1)) ≤ 1 then 0 else if qo Q (qh Q - 1) = 37 then 0 else any) → pd_K xs Ls d pd_m108 (mm_back pd_m108 105 [some (.ref (43 : Nat)), some (.int r), some (.int (qo Q (qh Q - 1))), some (.int any)] [] (mm_ev xs Ls pd_ck pd_ak pd_mj d 96 [.ref (43 : Nat), .int (qo Q (qh Q - 1)), .int a] (pd_st (eQ I0 (Qx)) D (pd_RF q) J n))) (.inl none, (pd_st (eQ I0 (qred r f (red1 Q))) D (pd_RF q) J n)) := by
        intro Qx a any e1 e2 e3 e4
        rw [hK Qx a any e1 e2 e3, ← e4]
        exact hI any
      have g0 : ¬ (1 : Int32) = 0 := by decide
      by_cases h1 : qr Q (qt Q - 2) = 0
      · by_cases h3 : qr Q (qt Q - 1) = 0
        · have hr : rany Q = false := by unfold rany; rw [if_pos h1, if_pos h3]
          by_cases c1 : qo Q (qh Q - 1) = 37
          · simp only [if_pos h1, if_pos h3, if_pos c1, if_true]
            by_cases c2 : qo Q (qh Q - 1) = 47
            · rw [if_pos c2]; refine hF _ _ _ rfl rfl (Or.inl rfl) ?_; unfold red1; simp [hr, c2, pd_b]
            · rw [if_neg c2]; refine hF _ _ _ rfl rfl (Or.inl rfl) ?_; unfold red1; simp [hr, c2, pd_b]
          · simp only [if_pos h1, if_pos h3, if_neg c1, if_true]
            by_cases c2 : qo Q (qh Q - 1) = 47
            · rw [if_pos c2]; refine hF _ _ _ rfl rfl (Or.inl rfl) ?_; unfold red1; simp [hr, c2, pd_b]
            · rw [if_neg c2]; refine hF _ _ _ rfl rfl (Or.inl rfl) ?_; unfold red1; simp [hr, c2, pd_b]
        · have hr : rany Q = true := by unfold rany; rw [if_pos h1, if_neg h3]
          by_cases c1 : qo Q (qh Q - 1) = 37
          · have c3 : ¬ (qo Q (qh Q - 1) = 47) := by rw [c1]; decide
            simp only [if_pos h1, if_neg h3, if_pos c1, if_neg c3, if_neg g0]
            refine hF _ _ _ rfl rfl (Or.inr rfl) ?_; unfold red1; simp [hr, c1, pd_b]
          · simp only [if_pos h1, if_neg h3, if_neg c1, if_neg g0]
            by_cases c2 : qo Q (qh Q - 1) = 47
            · rw [if_pos c2]; refine hF _ _ _ rfl rfl (Or.inr rfl) ?_; unfold red1; simp [hr, c2, pd_b]
            · rw [if_neg c2]; refine hF _ _ _ rfl rfl (Or.inr rfl) ?_; unfold red1; simp [hr, c1, c2, pd_b]
      · have hr : rany Q = true := by unfold rany; rw [if_neg h1]
        by_cases c1 : qo Q (qh Q - 1) = 37
        · have c3 : ¬ (qo Q (qh Q - 1) = 47) := by rw [c1]; decide
          simp only [if_neg h1, if_pos c1, if_neg c3, if_neg g0]
          refine hF _ _ _ rfl rfl (Or.inr rfl) ?_; unfold red1; simp [hr, c1, pd_b]
        · simp only [if_neg h1, if_neg c1, if_neg g0]
          by_cases c2 : qo Q (qh Q - 1) = 47
          · rw [if_pos c2]; refine hF _ _ _ rfl rfl (Or.inr rfl) ?_; unfold red1; simp [hr, c2, pd_b]
          · rw [if_neg c2]; refine hF _ _ _ rfl rfl (Or.inr rfl) ?_; unfold red1; simp [hr, c1, c2, pd_b]
theorem ev108 {r : Int32} {f : Nat} (hd : 2 ≤ d) (h : okR r f Q) : mm_ev xs Ls pd_ck pd_ak pd_mj d 108 [.ref (43 : Nat), .int r] (pd_st (eQ I0 (Q)) D (pd_RF q) J n) = some (.inl none, (pd_st (eQ I0 (qred r f Q)) D (pd_RF q) J n)) := by
  obtain ⟨d, rfl⟩ : ∃ e, d = e + 1 := ⟨d - 1, by omega⟩
  refine pd_ev_of (Nat.le_of_ble_eq_true rfl) ?_
  rw [show pd_mj 108 = pd_m108 from rfl, show mm_pad (mm_in [.ref (43 : Nat), .int r]) pd_m108.nL = [some (.ref (43 : Nat)), some (.int r), none, none] from rfl]
  exact lp108 (by omega) f Q none none rfl h
end REF1
