/-! THE REFERENCE's READER: its state (printed by gen_q.py): height, top, size, depth, target, statements, mistyped, and the rows of marks, places, kinds, and of the code -/
abbrev pq : Type := Nat × Nat × Nat × Int32 × Int32 × Int32 × Bool × (Nat → Int32) × (Nat → Int32) × (Nat → Int32) × (Nat → Int32) × (Nat → Int32) × (Nat → Int32)
def qh (Q : pq) : Nat := Q.1
def qt (Q : pq) : Nat := Q.2.1
def qs (Q : pq) : Nat := Q.2.2.1
def qd (Q : pq) : Int32 := Q.2.2.2.1
def qg (Q : pq) : Int32 := Q.2.2.2.2.1
def qn (Q : pq) : Int32 := Q.2.2.2.2.2.1
def qm (Q : pq) : Bool := Q.2.2.2.2.2.2.1
def qo (Q : pq) : (Nat → Int32) := Q.2.2.2.2.2.2.2.1
def qf (Q : pq) : (Nat → Int32) := Q.2.2.2.2.2.2.2.2.1
def qr (Q : pq) : (Nat → Int32) := Q.2.2.2.2.2.2.2.2.2.1
def qc (Q : pq) : (Nat → Int32) := Q.2.2.2.2.2.2.2.2.2.2.1
def qa (Q : pq) : (Nat → Int32) := Q.2.2.2.2.2.2.2.2.2.2.2.1
def qx (Q : pq) : (Nat → Int32) := Q.2.2.2.2.2.2.2.2.2.2.2.2
def sH (Q : pq) (v : Nat) : pq := (v, qt Q, qs Q, qd Q, qg Q, qn Q, qm Q, qo Q, qf Q, qr Q, qc Q, qa Q, qx Q)
def sT (Q : pq) (v : Nat) : pq := (qh Q, v, qs Q, qd Q, qg Q, qn Q, qm Q, qo Q, qf Q, qr Q, qc Q, qa Q, qx Q)
def sS (Q : pq) (v : Nat) : pq := (qh Q, qt Q, v, qd Q, qg Q, qn Q, qm Q, qo Q, qf Q, qr Q, qc Q, qa Q, qx Q)
def sD (Q : pq) (v : Int32) : pq := (qh Q, qt Q, qs Q, v, qg Q, qn Q, qm Q, qo Q, qf Q, qr Q, qc Q, qa Q, qx Q)
def sG (Q : pq) (v : Int32) : pq := (qh Q, qt Q, qs Q, qd Q, v, qn Q, qm Q, qo Q, qf Q, qr Q, qc Q, qa Q, qx Q)
def sN (Q : pq) (v : Int32) : pq := (qh Q, qt Q, qs Q, qd Q, qg Q, v, qm Q, qo Q, qf Q, qr Q, qc Q, qa Q, qx Q)
def sM (Q : pq) (v : Bool) : pq := (qh Q, qt Q, qs Q, qd Q, qg Q, qn Q, v, qo Q, qf Q, qr Q, qc Q, qa Q, qx Q)
def sO (Q : pq) (k : Nat) (v : Int32) : pq := (qh Q, qt Q, qs Q, qd Q, qg Q, qn Q, qm Q, pd_up (qo Q) k v, qf Q, qr Q, qc Q, qa Q, qx Q)
def sF (Q : pq) (k : Nat) (v : Int32) : pq := (qh Q, qt Q, qs Q, qd Q, qg Q, qn Q, qm Q, qo Q, pd_up (qf Q) k v, qr Q, qc Q, qa Q, qx Q)
def sR (Q : pq) (k : Nat) (v : Int32) : pq := (qh Q, qt Q, qs Q, qd Q, qg Q, qn Q, qm Q, qo Q, qf Q, pd_up (qr Q) k v, qc Q, qa Q, qx Q)
def sC (Q : pq) (k : Nat) (v : Int32) : pq := (qh Q, qt Q, qs Q, qd Q, qg Q, qn Q, qm Q, qo Q, qf Q, qr Q, pd_up (qc Q) k v, qa Q, qx Q)
def sA (Q : pq) (k : Nat) (v : Int32) : pq := (qh Q, qt Q, qs Q, qd Q, qg Q, qn Q, qm Q, qo Q, qf Q, qr Q, qc Q, pd_up (qa Q) k v, qx Q)
def sX (Q : pq) (k : Nat) (v : Int32) : pq := (qh Q, qt Q, qs Q, qd Q, qg Q, qn Q, qm Q, qo Q, qf Q, qr Q, qc Q, qa Q, pd_up (qx Q) k v)
def eQ (I0 : pd_I) (Q : pq) : pd_I := fun a k =>
  if a = 43 then (if k = 10 then Int32.ofNat (qh Q) else if k = 11 then Int32.ofNat (qt Q) else if k = 12 then Int32.ofNat (qs Q) else if k = 15 then qd Q else if k = 13 then qg Q else if k = 14 then qn Q else if k = 16 then pd_b (qm Q) else I0 43 k)
  else if a = 49 then qo Q k
  else if a = 50 then qf Q k
  else if a = 51 then qr Q k
  else if a = 45 then qc Q k
  else if a = 46 then qa Q k
  else if a = 47 then qx Q k
  else I0 a k
section EQ
variable {I0 : pd_I} {Q : pq} {k : Nat}
theorem eQ_h : eQ I0 Q 43 10 = Int32.ofNat (qh Q) := rfl
theorem eQ_t : eQ I0 Q 43 11 = Int32.ofNat (qt Q) := rfl
theorem eQ_s : eQ I0 Q 43 12 = Int32.ofNat (qs Q) := rfl
theorem eQ_d : eQ I0 Q 43 15 = qd Q := rfl
theorem eQ_g : eQ I0 Q 43 13 = qg Q := rfl
theorem eQ_n : eQ I0 Q 43 14 = qn Q := rfl
theorem eQ_m : eQ I0 Q 43 16 = pd_b (qm Q) := rfl
theorem eQ_o : eQ I0 Q 49 k = qo Q k := rfl
theorem eQ_f : eQ I0 Q 50 k = qf Q k := rfl
theorem eQ_r : eQ I0 Q 51 k = qr Q k := rfl
theorem eQ_c : eQ I0 Q 45 k = qc Q k := rfl
theorem eQ_a : eQ I0 Q 46 k = qa Q k := rfl
theorem eQ_x : eQ I0 Q 47 k = qx Q k := rfl
theorem eQ_8 : eQ I0 Q 43 8 = I0 43 8 := rfl
theorem eQ_9 : eQ I0 Q 43 9 = I0 43 9 := rfl
theorem eQ_39 : eQ I0 Q 43 39 = I0 43 39 := rfl
theorem eQ_44 : eQ I0 Q 44 k = I0 44 k := rfl
theorem eQ_48 : eQ I0 Q 48 k = I0 48 k := rfl
theorem wQ_h {v : Nat} : mm_u (eQ I0 Q) 43 10 (Int32.ofNat v) = eQ I0 (sH Q v) := by
  funext a j
  by_cases ha : a = 43
  · subst ha
    by_cases hj : j = 10
    · subst hj; rfl
    · simp only [mm_u, if_neg hj]; unfold eQ; simp only [if_neg hj]; rfl
  · simp only [mm_u, if_neg ha]; unfold eQ; simp only [if_neg ha]; rfl
theorem wQ_t {v : Nat} : mm_u (eQ I0 Q) 43 11 (Int32.ofNat v) = eQ I0 (sT Q v) := by
  funext a j
  by_cases ha : a = 43
  · subst ha
    by_cases hj : j = 11
    · subst hj; rfl
    · simp only [mm_u, if_neg hj]; unfold eQ; simp only [if_neg hj]; rfl
  · simp only [mm_u, if_neg ha]; unfold eQ; simp only [if_neg ha]; rfl
theorem wQ_s {v : Nat} : mm_u (eQ I0 Q) 43 12 (Int32.ofNat v) = eQ I0 (sS Q v) := by
  funext a j
  by_cases ha : a = 43
  · subst ha
    by_cases hj : j = 12
    · subst hj; rfl
    · simp only [mm_u, if_neg hj]; unfold eQ; simp only [if_neg hj]; rfl
  · simp only [mm_u, if_neg ha]; unfold eQ; simp only [if_neg ha]; rfl
theorem wQ_d {v : Int32} : mm_u (eQ I0 Q) 43 15 v = eQ I0 (sD Q v) := by
  funext a j
  by_cases ha : a = 43
  · subst ha
    by_cases hj : j = 15
    · subst hj; rfl
    · simp only [mm_u, if_neg hj]; unfold eQ; simp only [if_neg hj]; rfl
  · simp only [mm_u, if_neg ha]; unfold eQ; simp only [if_neg ha]; rfl
theorem wQ_g {v : Int32} : mm_u (eQ I0 Q) 43 13 v = eQ I0 (sG Q v) := by
  funext a j
  by_cases ha : a = 43
  · subst ha
    by_cases hj : j = 13
    · subst hj; rfl
    · simp only [mm_u, if_neg hj]; unfold eQ; simp only [if_neg hj]; rfl
  · simp only [mm_u, if_neg ha]; unfold eQ; simp only [if_neg ha]; rfl
theorem wQ_n {v : Int32} : mm_u (eQ I0 Q) 43 14 v = eQ I0 (sN Q v) := by
  funext a j
  by_cases ha : a = 43
  · subst ha
    by_cases hj : j = 14
    · subst hj; rfl
    · simp only [mm_u, if_neg hj]; unfold eQ; simp only [if_neg hj]; rfl
  · simp only [mm_u, if_neg ha]; unfold eQ; simp only [if_neg ha]; rfl
theorem wQ_m {v : Bool} : mm_u (eQ I0 Q) 43 16 (pd_b v) = eQ I0 (sM Q v) := by
  funext a j
  by_cases ha : a = 43
  · subst ha
    by_cases hj : j = 16
    · subst hj; rfl
    · simp only [mm_u, if_neg hj]; unfold eQ; simp only [if_neg hj]; rfl
  · simp only [mm_u, if_neg ha]; unfold eQ; simp only [if_neg ha]; rfl
theorem wQ_o {v : Int32} : mm_u (eQ I0 Q) 49 k v = eQ I0 (sO Q k v) := by
  funext a j
  by_cases ha : a = 49
  · subst ha
    by_cases hj : j = k
    · subst hj; simp [mm_u, eQ, sO, qo, pd_up]
    · simp [mm_u, eQ, sO, qo, pd_up, hj]
  · simp only [mm_u, if_neg ha]; unfold eQ; simp only [if_neg ha]; rfl
theorem wQ_f {v : Int32} : mm_u (eQ I0 Q) 50 k v = eQ I0 (sF Q k v) := by
  funext a j
  by_cases ha : a = 50
  · subst ha
    by_cases hj : j = k
    · subst hj; simp [mm_u, eQ, sF, qf, pd_up]
    · simp [mm_u, eQ, sF, qf, pd_up, hj]
  · simp only [mm_u, if_neg ha]; unfold eQ; simp only [if_neg ha]; rfl
theorem wQ_r {v : Int32} : mm_u (eQ I0 Q) 51 k v = eQ I0 (sR Q k v) := by
  funext a j
  by_cases ha : a = 51
  · subst ha
    by_cases hj : j = k
    · subst hj; simp [mm_u, eQ, sR, qr, pd_up]
    · simp [mm_u, eQ, sR, qr, pd_up, hj]
  · simp only [mm_u, if_neg ha]; unfold eQ; simp only [if_neg ha]; rfl
theorem wQ_c {v : Int32} : mm_u (eQ I0 Q) 45 k v = eQ I0 (sC Q k v) := by
  funext a j
  by_cases ha : a = 45
  · subst ha
    by_cases hj : j = k
    · subst hj; simp [mm_u, eQ, sC, qc, pd_up]
    · simp [mm_u, eQ, sC, qc, pd_up, hj]
  · simp only [mm_u, if_neg ha]; unfold eQ; simp only [if_neg ha]; rfl
theorem wQ_a {v : Int32} : mm_u (eQ I0 Q) 46 k v = eQ I0 (sA Q k v) := by
  funext a j
  by_cases ha : a = 46
  · subst ha
    by_cases hj : j = k
    · subst hj; simp [mm_u, eQ, sA, qa, pd_up]
    · simp [mm_u, eQ, sA, qa, pd_up, hj]
  · simp only [mm_u, if_neg ha]; unfold eQ; simp only [if_neg ha]; rfl
theorem wQ_x {v : Int32} : mm_u (eQ I0 Q) 47 k v = eQ I0 (sX Q k v) := by
  funext a j
  by_cases ha : a = 47
  · subst ha
    by_cases hj : j = k
    · subst hj; simp [mm_u, eQ, sX, qx, pd_up]
    · simp [mm_u, eQ, sX, qx, pd_up, hj]
  · simp only [mm_u, if_neg ha]; unfold eQ; simp only [if_neg ha]; rfl
theorem qs_hh {v : Nat} : qh (sH Q v) = v := rfl
theorem qs_th {v : Nat} : qt (sH Q v) = qt Q := rfl
theorem qs_sh {v : Nat} : qs (sH Q v) = qs Q := rfl
theorem qs_dh {v : Nat} : qd (sH Q v) = qd Q := rfl
theorem qs_gh {v : Nat} : qg (sH Q v) = qg Q := rfl
theorem qs_nh {v : Nat} : qn (sH Q v) = qn Q := rfl
theorem qs_mh {v : Nat} : qm (sH Q v) = qm Q := rfl
theorem qs_oh {v : Nat} : qo (sH Q v) = qo Q := rfl
theorem qs_fh {v : Nat} : qf (sH Q v) = qf Q := rfl
theorem qs_rh {v : Nat} : qr (sH Q v) = qr Q := rfl
theorem qs_ch {v : Nat} : qc (sH Q v) = qc Q := rfl
theorem qs_ah {v : Nat} : qa (sH Q v) = qa Q := rfl
theorem qs_xh {v : Nat} : qx (sH Q v) = qx Q := rfl
theorem qs_ht {v : Nat} : qh (sT Q v) = qh Q := rfl
theorem qs_tt {v : Nat} : qt (sT Q v) = v := rfl
theorem qs_st {v : Nat} : qs (sT Q v) = qs Q := rfl
theorem qs_dt {v : Nat} : qd (sT Q v) = qd Q := rfl
theorem qs_gt {v : Nat} : qg (sT Q v) = qg Q := rfl
theorem qs_nt {v : Nat} : qn (sT Q v) = qn Q := rfl
theorem qs_mt {v : Nat} : qm (sT Q v) = qm Q := rfl
theorem qs_ot {v : Nat} : qo (sT Q v) = qo Q := rfl
theorem qs_ft {v : Nat} : qf (sT Q v) = qf Q := rfl
theorem qs_rt {v : Nat} : qr (sT Q v) = qr Q := rfl
theorem qs_ct {v : Nat} : qc (sT Q v) = qc Q := rfl
theorem qs_at {v : Nat} : qa (sT Q v) = qa Q := rfl
theorem qs_xt {v : Nat} : qx (sT Q v) = qx Q := rfl
theorem qs_hs {v : Nat} : qh (sS Q v) = qh Q := rfl
theorem qs_ts {v : Nat} : qt (sS Q v) = qt Q := rfl
theorem qs_ss {v : Nat} : qs (sS Q v) = v := rfl
theorem qs_ds {v : Nat} : qd (sS Q v) = qd Q := rfl
theorem qs_gs {v : Nat} : qg (sS Q v) = qg Q := rfl
theorem qs_ns {v : Nat} : qn (sS Q v) = qn Q := rfl
theorem qs_ms {v : Nat} : qm (sS Q v) = qm Q := rfl
theorem qs_os {v : Nat} : qo (sS Q v) = qo Q := rfl
theorem qs_fs {v : Nat} : qf (sS Q v) = qf Q := rfl
theorem qs_rs {v : Nat} : qr (sS Q v) = qr Q := rfl
theorem qs_cs {v : Nat} : qc (sS Q v) = qc Q := rfl
theorem qs_as {v : Nat} : qa (sS Q v) = qa Q := rfl
theorem qs_xs {v : Nat} : qx (sS Q v) = qx Q := rfl
theorem qs_hd {v : Int32} : qh (sD Q v) = qh Q := rfl
theorem qs_td {v : Int32} : qt (sD Q v) = qt Q := rfl
theorem qs_sd {v : Int32} : qs (sD Q v) = qs Q := rfl
theorem qs_dd {v : Int32} : qd (sD Q v) = v := rfl
theorem qs_gd {v : Int32} : qg (sD Q v) = qg Q := rfl
theorem qs_nd {v : Int32} : qn (sD Q v) = qn Q := rfl
theorem qs_md {v : Int32} : qm (sD Q v) = qm Q := rfl
theorem qs_od {v : Int32} : qo (sD Q v) = qo Q := rfl
theorem qs_fd {v : Int32} : qf (sD Q v) = qf Q := rfl
theorem qs_rd {v : Int32} : qr (sD Q v) = qr Q := rfl
theorem qs_cd {v : Int32} : qc (sD Q v) = qc Q := rfl
theorem qs_ad {v : Int32} : qa (sD Q v) = qa Q := rfl
theorem qs_xd {v : Int32} : qx (sD Q v) = qx Q := rfl
theorem qs_hg {v : Int32} : qh (sG Q v) = qh Q := rfl
theorem qs_tg {v : Int32} : qt (sG Q v) = qt Q := rfl
theorem qs_sg {v : Int32} : qs (sG Q v) = qs Q := rfl
theorem qs_dg {v : Int32} : qd (sG Q v) = qd Q := rfl
theorem qs_gg {v : Int32} : qg (sG Q v) = v := rfl
theorem qs_ng {v : Int32} : qn (sG Q v) = qn Q := rfl
theorem qs_mg {v : Int32} : qm (sG Q v) = qm Q := rfl
theorem qs_og {v : Int32} : qo (sG Q v) = qo Q := rfl
theorem qs_fg {v : Int32} : qf (sG Q v) = qf Q := rfl
theorem qs_rg {v : Int32} : qr (sG Q v) = qr Q := rfl
theorem qs_cg {v : Int32} : qc (sG Q v) = qc Q := rfl
theorem qs_ag {v : Int32} : qa (sG Q v) = qa Q := rfl
theorem qs_xg {v : Int32} : qx (sG Q v) = qx Q := rfl
theorem qs_hn {v : Int32} : qh (sN Q v) = qh Q := rfl
theorem qs_tn {v : Int32} : qt (sN Q v) = qt Q := rfl
theorem qs_sn {v : Int32} : qs (sN Q v) = qs Q := rfl
theorem qs_dn {v : Int32} : qd (sN Q v) = qd Q := rfl
theorem qs_gn {v : Int32} : qg (sN Q v) = qg Q := rfl
theorem qs_nn {v : Int32} : qn (sN Q v) = v := rfl
theorem qs_mn {v : Int32} : qm (sN Q v) = qm Q := rfl
theorem qs_on {v : Int32} : qo (sN Q v) = qo Q := rfl
theorem qs_fn {v : Int32} : qf (sN Q v) = qf Q := rfl
theorem qs_rn {v : Int32} : qr (sN Q v) = qr Q := rfl
theorem qs_cn {v : Int32} : qc (sN Q v) = qc Q := rfl
theorem qs_an {v : Int32} : qa (sN Q v) = qa Q := rfl
theorem qs_xn {v : Int32} : qx (sN Q v) = qx Q := rfl
theorem qs_hm {v : Bool} : qh (sM Q v) = qh Q := rfl
theorem qs_tm {v : Bool} : qt (sM Q v) = qt Q := rfl
theorem qs_sm {v : Bool} : qs (sM Q v) = qs Q := rfl
theorem qs_dm {v : Bool} : qd (sM Q v) = qd Q := rfl
theorem qs_gm {v : Bool} : qg (sM Q v) = qg Q := rfl
theorem qs_nm {v : Bool} : qn (sM Q v) = qn Q := rfl
theorem qs_mm {v : Bool} : qm (sM Q v) = v := rfl
theorem qs_om {v : Bool} : qo (sM Q v) = qo Q := rfl
theorem qs_fm {v : Bool} : qf (sM Q v) = qf Q := rfl
theorem qs_rm {v : Bool} : qr (sM Q v) = qr Q := rfl
theorem qs_cm {v : Bool} : qc (sM Q v) = qc Q := rfl
theorem qs_am {v : Bool} : qa (sM Q v) = qa Q := rfl
theorem qs_xm {v : Bool} : qx (sM Q v) = qx Q := rfl
theorem qs_ho {v : Int32} : qh (sO Q k v) = qh Q := rfl
theorem qs_to {v : Int32} : qt (sO Q k v) = qt Q := rfl
theorem qs_so {v : Int32} : qs (sO Q k v) = qs Q := rfl
theorem qs_do {v : Int32} : qd (sO Q k v) = qd Q := rfl
theorem qs_go {v : Int32} : qg (sO Q k v) = qg Q := rfl
theorem qs_no {v : Int32} : qn (sO Q k v) = qn Q := rfl
theorem qs_mo {v : Int32} : qm (sO Q k v) = qm Q := rfl
theorem qs_oo {v : Int32} : qo (sO Q k v) = pd_up (qo Q) k v := rfl
theorem qs_fo {v : Int32} : qf (sO Q k v) = qf Q := rfl
theorem qs_ro {v : Int32} : qr (sO Q k v) = qr Q := rfl
theorem qs_co {v : Int32} : qc (sO Q k v) = qc Q := rfl
theorem qs_ao {v : Int32} : qa (sO Q k v) = qa Q := rfl
theorem qs_xo {v : Int32} : qx (sO Q k v) = qx Q := rfl
theorem qs_hf {v : Int32} : qh (sF Q k v) = qh Q := rfl
theorem qs_tf {v : Int32} : qt (sF Q k v) = qt Q := rfl
theorem qs_sf {v : Int32} : qs (sF Q k v) = qs Q := rfl
theorem qs_df {v : Int32} : qd (sF Q k v) = qd Q := rfl
theorem qs_gf {v : Int32} : qg (sF Q k v) = qg Q := rfl
theorem qs_nf {v : Int32} : qn (sF Q k v) = qn Q := rfl
theorem qs_mf {v : Int32} : qm (sF Q k v) = qm Q := rfl
theorem qs_of {v : Int32} : qo (sF Q k v) = qo Q := rfl
theorem qs_ff {v : Int32} : qf (sF Q k v) = pd_up (qf Q) k v := rfl
theorem qs_rf {v : Int32} : qr (sF Q k v) = qr Q := rfl
theorem qs_cf {v : Int32} : qc (sF Q k v) = qc Q := rfl
theorem qs_af {v : Int32} : qa (sF Q k v) = qa Q := rfl
theorem qs_xf {v : Int32} : qx (sF Q k v) = qx Q := rfl
theorem qs_hr {v : Int32} : qh (sR Q k v) = qh Q := rfl
theorem qs_tr {v : Int32} : qt (sR Q k v) = qt Q := rfl
theorem qs_sr {v : Int32} : qs (sR Q k v) = qs Q := rfl
theorem qs_dr {v : Int32} : qd (sR Q k v) = qd Q := rfl
theorem qs_gr {v : Int32} : qg (sR Q k v) = qg Q := rfl
theorem qs_nr {v : Int32} : qn (sR Q k v) = qn Q := rfl
theorem qs_mr {v : Int32} : qm (sR Q k v) = qm Q := rfl
theorem qs_or {v : Int32} : qo (sR Q k v) = qo Q := rfl
theorem qs_fr {v : Int32} : qf (sR Q k v) = qf Q := rfl
theorem qs_rr {v : Int32} : qr (sR Q k v) = pd_up (qr Q) k v := rfl
theorem qs_cr {v : Int32} : qc (sR Q k v) = qc Q := rfl
theorem qs_ar {v : Int32} : qa (sR Q k v) = qa Q := rfl
theorem qs_xr {v : Int32} : qx (sR Q k v) = qx Q := rfl
theorem qs_hc {v : Int32} : qh (sC Q k v) = qh Q := rfl
theorem qs_tc {v : Int32} : qt (sC Q k v) = qt Q := rfl
theorem qs_sc {v : Int32} : qs (sC Q k v) = qs Q := rfl
theorem qs_dc {v : Int32} : qd (sC Q k v) = qd Q := rfl
theorem qs_gc {v : Int32} : qg (sC Q k v) = qg Q := rfl
theorem qs_nc {v : Int32} : qn (sC Q k v) = qn Q := rfl
theorem qs_mc {v : Int32} : qm (sC Q k v) = qm Q := rfl
theorem qs_oc {v : Int32} : qo (sC Q k v) = qo Q := rfl
theorem qs_fc {v : Int32} : qf (sC Q k v) = qf Q := rfl
theorem qs_rc {v : Int32} : qr (sC Q k v) = qr Q := rfl
theorem qs_cc {v : Int32} : qc (sC Q k v) = pd_up (qc Q) k v := rfl
theorem qs_ac {v : Int32} : qa (sC Q k v) = qa Q := rfl
theorem qs_xc {v : Int32} : qx (sC Q k v) = qx Q := rfl
theorem qs_ha {v : Int32} : qh (sA Q k v) = qh Q := rfl
theorem qs_ta {v : Int32} : qt (sA Q k v) = qt Q := rfl
theorem qs_sa {v : Int32} : qs (sA Q k v) = qs Q := rfl
theorem qs_da {v : Int32} : qd (sA Q k v) = qd Q := rfl
theorem qs_ga {v : Int32} : qg (sA Q k v) = qg Q := rfl
theorem qs_na {v : Int32} : qn (sA Q k v) = qn Q := rfl
theorem qs_ma {v : Int32} : qm (sA Q k v) = qm Q := rfl
theorem qs_oa {v : Int32} : qo (sA Q k v) = qo Q := rfl
theorem qs_fa {v : Int32} : qf (sA Q k v) = qf Q := rfl
theorem qs_ra {v : Int32} : qr (sA Q k v) = qr Q := rfl
theorem qs_ca {v : Int32} : qc (sA Q k v) = qc Q := rfl
theorem qs_aa {v : Int32} : qa (sA Q k v) = pd_up (qa Q) k v := rfl
theorem qs_xa {v : Int32} : qx (sA Q k v) = qx Q := rfl
theorem qs_hx {v : Int32} : qh (sX Q k v) = qh Q := rfl
theorem qs_tx {v : Int32} : qt (sX Q k v) = qt Q := rfl
theorem qs_sx {v : Int32} : qs (sX Q k v) = qs Q := rfl
theorem qs_dx {v : Int32} : qd (sX Q k v) = qd Q := rfl
theorem qs_gx {v : Int32} : qg (sX Q k v) = qg Q := rfl
theorem qs_nx {v : Int32} : qn (sX Q k v) = qn Q := rfl
theorem qs_mx {v : Int32} : qm (sX Q k v) = qm Q := rfl
theorem qs_ox {v : Int32} : qo (sX Q k v) = qo Q := rfl
theorem qs_fx {v : Int32} : qf (sX Q k v) = qf Q := rfl
theorem qs_rx {v : Int32} : qr (sX Q k v) = qr Q := rfl
theorem qs_cx {v : Int32} : qc (sX Q k v) = qc Q := rfl
theorem qs_ax {v : Int32} : qa (sX Q k v) = qa Q := rfl
theorem qs_xx {v : Int32} : qx (sX Q k v) = pd_up (qx Q) k v := rfl
end EQ
