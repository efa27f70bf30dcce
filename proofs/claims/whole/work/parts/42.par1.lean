/-! THE CLASS's READER: its state as a pure one -/
def pd_b (b : Bool) : Int32 := cond b 1 0
/-- at, refused, typesWrong, statements, code: length, orders, numbers -/
abbrev pd_Q : Type := Nat × Bool × Bool × Int32 × Nat × (Nat → Int32) × (Nat → Int32)
abbrev pd_P : Type := { q : pd_Q // q.1 ≤ 48 ∧ q.2.2.2.2.1 ≤ 49 }
def pA (P : pd_P) : Nat := P.1.1
def pR (P : pd_P) : Bool := P.1.2.1
def pW (P : pd_P) : Bool := P.1.2.2.1
def pS (P : pd_P) : Int32 := P.1.2.2.2.1
def pN (P : pd_P) : Nat := P.1.2.2.2.2.1
def pO (P : pd_P) : Nat → Int32 := P.1.2.2.2.2.2.1
def pV (P : pd_P) : Nat → Int32 := P.1.2.2.2.2.2.2
theorem pA_le (P : pd_P) : pA P ≤ 48 := P.2.1
theorem pN_le (P : pd_P) : pN P ≤ 49 := P.2.2
def pd_up {α : Type} (f : Nat → α) (k : Nat) (x : α) : Nat → α := fun j => if j = k then x else f j
/-- one character on -/
def adv (P : pd_P) : pd_P := if h : pA P < 48 then ⟨(pA P + 1, P.1.2), by omega, P.2.2⟩ else P
def rfs (P : pd_P) : pd_P := ⟨(P.1.1, true, P.1.2.2), P.2⟩
def tws (P : pd_P) : pd_P := ⟨(P.1.1, P.1.2.1, true, P.1.2.2.2), P.2⟩
def sts (P : pd_P) : pd_P := ⟨(P.1.1, P.1.2.1, P.1.2.2.1, P.1.2.2.2.1 + 1, P.1.2.2.2.2), P.2⟩
def add (P : pd_P) (o v : Int32) : pd_P := if h : pN P < 49 then ⟨(P.1.1, P.1.2.1, P.1.2.2.1, P.1.2.2.2.1, pN P + 1, pd_up (pO P) (pN P) o, pd_up (pV P) (pN P) v), P.2.1, by show pN P + 1 ≤ 49; omega⟩ else P
def ptH (P : pd_P) (k : Nat) : pd_P := if k < 49 then ⟨(P.1.1, P.1.2.1, P.1.2.2.1, P.1.2.2.2.1, pN P, pO P, pd_up (pV P) k (Int32.ofNat (pN P))), P.2⟩ else P
def pd_eP (I0 : pd_I) (c : Nat) (P : pd_P) : pd_I := fun a k =>
  if a = 1 then (if k = 3 then Int32.ofNat (pA P) else if k = 4 then pd_b (pR P) else if k = 5 then pd_b (pW P) else I0 1 k)
  else if a = c then (if k = 2 then Int32.ofNat (pN P) else if k = 3 then pS P else I0 a k)
  else if a = c + 1 then pO P k
  else if a = c + 2 then pV P k
  else I0 a k
def pd_cO (c : Nat) : Prop := c = 3 ∨ c = 8 ∨ c = 11 ∨ c = 14 ∨ c = 17
def pd_chr (x : Int32) : Prop := 33 ≤ x ∧ x ≤ 126
/-- what holds while the class reads: m characters, code into c -/
def pd_H (I0 : pd_I) (A : pd_A) (c m : Nat) : Prop := pd_cO c ∧ A 1 0 = some 2 ∧ A 1 2 = some c ∧ A c 0 = some (c + 1) ∧ A c 1 = some (c + 2) ∧ I0 1 1 = Int32.ofNat m ∧ m ≤ 48 ∧ ∀ k, k < m → pd_chr (I0 2 k)
/-- the next character, 0 if there is none or the text is refused -/
def pk (I0 : pd_I) (m : Nat) (P : pd_P) : Int32 := if pR P = true then 0 else if m ≤ pA P then 0 else I0 2 (pA P)
/-- takes, needs, opens, digit, needInteger, simpleVariable -/
def tk (I0 : pd_I) (m : Nat) (P : pd_P) (x : Int32) : Bool × pd_P := if pk I0 m P = x then (true, adv P) else (false, P)
def nd (I0 : pd_I) (m : Nat) (P : pd_P) (x : Int32) : Bool × pd_P := if pk I0 m P = x then (true, adv P) else (false, rfs P)
def opn (I0 : pd_I) (m : Nat) (P : pd_P) (x : Int32) (dp : Nat) : Bool × pd_P := if 5 ≤ dp then (false, rfs P) else nd I0 m P x
def dg (I0 : pd_I) (m : Nat) (P : pd_P) (hi : Int32) : Int32 × pd_P := if pk I0 m P < 48 then (0, rfs P) else if hi < pk I0 m P then (0, rfs P) else (pk I0 m P - 48, adv P)
def ni (P : pd_P) (b : Bool) : pd_P := if b = true then tws P else P
def sv (x : Int32) : Int32 := if x < 97 then (if x < 114 then -1 else if 116 < x then -1 else x - 114 + 4) else if 100 < x then (if x < 114 then -1 else if 116 < x then -1 else x - 114 + 4) else x - 97
def isD (x : Int32) : Bool := if x < 48 then false else if 57 < x then false else true
section PAR1
variable {I0 : pd_I} {D : pd_D} {A : pd_A} {J : pd_J} {n c m : Nat} {P : pd_P} {xs : Nat → Int32} {Ls d : Nat}
theorem va_rfs {x : Nat} : va_rf (some x) = .ref x := rfl
theorem pd_cO.sh (h : pd_cO c) : pd_SH[c]? = some (.inl 1) := by rcases h with rfl | rfl | rfl | rfl | rfl <;> rfl
theorem pd_cO.sh1 (h : pd_cO c) : pd_SH[c + 1]? = some (.inr (0, 49)) := by rcases h with rfl | rfl | rfl | rfl | rfl <;> rfl
theorem pd_cO.sh2 (h : pd_cO c) : pd_SH[c + 2]? = some (.inr (0, 49)) := by rcases h with rfl | rfl | rfl | rfl | rfl <;> rfl
theorem pd_cO.ne (h : pd_cO c) : c ≠ 1 ∧ c ≠ 0 ∧ c + 1 ≠ 1 ∧ c + 2 ≠ 1 := by rcases h with rfl | rfl | rfl | rfl | rfl <;> decide
theorem eP_13 : pd_eP I0 c P 1 3 = Int32.ofNat (pA P) := rfl
theorem eP_14 : pd_eP I0 c P 1 4 = pd_b (pR P) := rfl
theorem eP_15 : pd_eP I0 c P 1 5 = pd_b (pW P) := rfl
theorem eP_11 : pd_eP I0 c P 1 1 = I0 1 1 := rfl
theorem eP_2 {k : Nat} (h : pd_cO c) : pd_eP I0 c P 2 k = I0 2 k := by rcases h with rfl | rfl | rfl | rfl | rfl <;> rfl
theorem eP_c2 (h : pd_cO c) : pd_eP I0 c P c 2 = Int32.ofNat (pN P) := by rcases h with rfl | rfl | rfl | rfl | rfl <;> rfl
theorem eP_c3 (h : pd_cO c) : pd_eP I0 c P c 3 = pS P := by rcases h with rfl | rfl | rfl | rfl | rfl <;> rfl
theorem pd_suc {x : Nat} : Int32.ofNat x + 1 = Int32.ofNat (x + 1) := by
  rw [show (1 : Int32) = Int32.ofNat 1 from rfl, ← Int32.ofNat_add]
theorem eP_adv (h : pA P < 48) : mm_u (pd_eP I0 c P) 1 3 (Int32.ofNat (pA P) + 1) = pd_eP I0 c (adv P) := by
  rw [pd_suc]
  unfold adv
  rw [dif_pos h]
  funext a k
  by_cases ha : a = 1
  · subst ha
    by_cases hk : k = 3
    · subst hk; rfl
    · simp [mm_u, pd_eP, hk]; rfl
  · simp [mm_u, pd_eP, ha]; rfl
theorem eP_rf : mm_u (pd_eP I0 c P) 1 4 1 = pd_eP I0 c (rfs P) := by
  funext a k
  by_cases ha : a = 1
  · subst ha
    by_cases hk : k = 4
    · subst hk; rfl
    · simp [mm_u, pd_eP, hk]; rfl
  · simp [mm_u, pd_eP, ha]; rfl
theorem eP_tw : mm_u (pd_eP I0 c P) 1 5 1 = pd_eP I0 c (tws P) := by
  funext a k
  by_cases ha : a = 1
  · subst ha
    by_cases hk : k = 5
    · subst hk; rfl
    · simp [mm_u, pd_eP, hk]; rfl
  · simp [mm_u, pd_eP, ha]; rfl
theorem eP_st (h : pd_cO c) : mm_u (pd_eP I0 c P) c 3 (pS P + 1) = pd_eP I0 c (sts P) := by
  have hn := h.ne
  funext a k
  by_cases ha : a = c
  · subst ha
    by_cases hk : k = 3
    · subst hk; simp [mm_u, pd_eP, hn.1]; rfl
    · simp [mm_u, pd_eP, hk, hn.1]; rfl
  · simp [mm_u, pd_eP, ha]; rfl
theorem eP_add {o v : Int32} (h : pd_cO c) (hl : pN P < 49) : mm_u (mm_u (mm_u (pd_eP I0 c P) (c + 1) (pN P) o) (c + 2) (pN P) v) c 2 (Int32.ofNat (pN P) + 1) = pd_eP I0 c (add P o v) := by
  rw [pd_suc]
  have hn := h.ne
  unfold add
  rw [dif_pos hl]
  funext a k
  by_cases ha : a = c
  · subst ha
    by_cases hk : k = 2
    · subst hk; simp only [mm_u, pd_eP, if_true, if_neg hn.1]; rfl
    · simp [mm_u, pd_eP, hk, hn.1]; rfl
  · by_cases ha1 : a = c + 1
    · subst ha1
      have : c ≠ 0 := hn.2.1
      simp only [mm_u, pd_eP, pd_up, pO, pN]
      simp [this]
      rfl
    · by_cases ha2 : a = c + 2
      · subst ha2
        have : c ≠ 0 := hn.2.1
        simp only [mm_u, pd_eP, pd_up, pV, pN]
        simp
        rfl
      · simp [mm_u, pd_eP, ha, ha1, ha2]; rfl
theorem eP_pt {k0 : Nat} (h : pd_cO c) (hk0 : k0 < 49) : mm_u (pd_eP I0 c P) (c + 2) k0 (Int32.ofNat (pN P)) = pd_eP I0 c (ptH P k0) := by
  have hn := h.ne
  unfold ptH
  rw [if_pos hk0]
  funext a k
  by_cases ha2 : a = c + 2
  · subst ha2
    simp only [mm_u, pd_eP, pd_up, pV, pN]
    simp
  · simp [mm_u, pd_eP, ha2]; rfl
theorem pd_b0 {b : Bool} : (pd_b b = 0) = (b = false) := by cases b <;> simp [pd_b]
theorem pd_bt {b : Bool} : (pd_b b = 0 ∨ pd_b b = 1) = True := by cases b <;> simp [pd_b]
theorem pd_bt2 {b : Bool} : (b = false ∨ pd_b b = 1) = True := by cases b <;> simp [pd_b]
theorem pd_lt {x y : Nat} (hx : x < 2147483648) (hy : y < 2147483648) : (Int32.ofNat x < Int32.ofNat y) = (x < y) := by
  rw [Int32.lt_iff_toInt_lt, Int32.toInt_ofNat_of_lt hx, Int32.toInt_ofNat_of_lt hy]
  simp
theorem pd_le {x y : Nat} (hx : x < 2147483648) (hy : y < 2147483648) : (Int32.ofNat x ≤ Int32.ofNat y) = (x ≤ y) := by
  rw [Int32.le_iff_toInt_le, Int32.toInt_ofNat_of_lt hx, Int32.toInt_ofNat_of_lt hy]
  simp
theorem pd_chr.nar {x : Int32} (h : pd_chr x) : (x.toUInt32 % 65536).toInt32 = x := by
  obtain ⟨h1, h2⟩ := h
  rw [Int32.le_iff_toInt_le] at h1 h2
  have e1 : (33 : Int32).toInt = 33 := by decide
  have e2 : (126 : Int32).toInt = 126 := by decide
  rw [e1] at h1
  rw [e2] at h2
  have hx : x = Int32.ofNat x.toInt.toNat := by
    apply Int32.toInt_inj.mp
    rw [Int32.toInt_ofNat_of_lt (by omega)]
    omega
  have hb : x.toInt.toNat < 127 := by omega
  generalize x.toInt.toNat = y at hx hb
  subst hx
  revert y
  decide
theorem pd_n0 : (Int32.toUInt32 0 % 65536).toInt32 = 0 := by decide
theorem pkc_lt (h : pk I0 m P ≠ 0) (hm : m ≤ 48) : pA P < 48 := by
  unfold pk at h
  split at h
  · exact absurd rfl h
  · split at h
    · exact absurd rfl h
    · omega
theorem ev25 (hd : 1 ≤ d) (H : pd_H I0 A c m) : mm_ev xs Ls pd_ck pd_ak pd_mj d 25 [.ref (1 : Nat)] (pd_st (pd_eP I0 c P) D A J n) = some (.inl (some (.int (pk I0 m P))), pd_st (pd_eP I0 c P) D A J n) := by
  obtain ⟨d, rfl⟩ : ∃ e, d = e + 1 := ⟨d - 1, by omega⟩
  obtain ⟨hc, a10, a12, ac0, ac1, h11, hm, hch⟩ := H
  have hP := pA_le P
  refine pd_ev_of (Nat.le_of_ble_eq_true rfl) ?_
  rw [show pd_mj 25 = pd_m25 from rfl, show mm_pad (mm_in [.ref (1 : Nat)]) pd_m25.nL = [some (.ref (1 : Nat))] from rfl]
  simp only [p25_0, p25_1, p25_4, p25_7, p25_8, p25_11, p25_12, p25_15, p25_18, p25_19, p25_22, p25_23, p25_26, p25_27, p25_30, p25_31, gf2_0 sh1, gf2_1 sh1, gf2_3 sh1, gf2_4 sh1, mm_e1, pd_stI, mm_lA, mm_lI, mm_lD, mm_lJ, mm_ld0, mm_lds, pd_Kgo, pd_Kend, pd_Kno, pd_Kite, mm_i, mm_ii, mm_r, mm_1, mm_icmp, cond_true, cond_false, mm_o2, mm_c2, wt0, wt1, wt2, wt3, wt4, va_rfs, pd_bkv, pd_bkn, pd_bkif, pd_st1, Nat.reduceAdd, Nat.reduceLeDiff, Bool.or_false, Bool.or_self, sh1, a10, eP_14, eP_13, eP_11, h11, pd_b0]
  unfold pk
  cases hr : pR P
  · by_cases hl : m ≤ pA P
    · simp [hl, pd_le (x := m) (y := pA P) (by omega) (by omega), pd_n0]
    · have h9 := (hch (pA P) (by omega)).nar
      simp only [pd_le (x := m) (y := pA P) (by omega) (by omega), if_neg hl, if_true, pd_ai (I := pd_eP I0 c P) (k := pA P) (a := 2) (ty := 1) (t := 1) (m := 48) rfl rfl (by omega) (by omega)]
      simp only [p25_0, p25_1, p25_4, p25_7, p25_8, p25_11, p25_12, p25_15, p25_18, p25_19, p25_22, p25_23, p25_26, p25_27, p25_30, p25_31, gf2_0 sh1, gf2_1 sh1, gf2_3 sh1, gf2_4 sh1, mm_e1, pd_stI, mm_lA, mm_lI, mm_lD, mm_lJ, mm_ld0, mm_lds, pd_Kgo, pd_Kend, pd_Kno, pd_Kite, mm_i, mm_ii, mm_r, mm_1, mm_icmp, cond_true, cond_false, mm_o2, mm_c2, wt0, wt1, wt2, wt3, wt4, va_rfs, pd_bkv, pd_bkn, pd_bkif, pd_st1, Nat.reduceAdd, Nat.reduceLeDiff, Bool.or_false, Bool.or_self, pd_nn (k := pA P) (by omega), eP_2 hc, h9]
      simp
  · simp [pd_n0]
theorem ev29 {x : Int32} (hd : 2 ≤ d) (H : pd_H I0 A c m) (hx : x ≠ 0) : mm_ev xs Ls pd_ck pd_ak pd_mj d 29 [.ref (1 : Nat), .int x] (pd_st (pd_eP I0 c P) D A J n) = some (.inl (some (.int (pd_b (tk I0 m P x).1))), pd_st (pd_eP I0 c (tk I0 m P x).2) D A J n) := by
  obtain ⟨d, rfl⟩ : ∃ e, d = e + 1 := ⟨d - 1, by omega⟩
  have hm := H.2.2.2.2.2.2.1
  refine pd_ev_of (Nat.le_of_ble_eq_true rfl) ?_
  rw [show pd_mj 29 = pd_m29 from rfl, show mm_pad (mm_in [.ref (1 : Nat), .int x]) pd_m29.nL = [some (.ref (1 : Nat)), some (.int x)] from rfl]
  simp only [p29_0, p29_1, p29_4, p29_5, p29_8, p29_9, p29_10, p29_11, p29_12, p29_15, p29_16, p29_17, p29_20, p29_21, gf2_3 sh1, mm_e4, pf2_3 sh1, qi0 sh1, mm_lA, mm_lI, mm_lD, mm_lJ, mm_ld0, mm_lds, pd_Kgo, pd_Kend, pd_Kno, pd_Kite, mm_i, mm_ii, mm_r, mm_1, mm_icmp, cond_true, cond_false, mm_o2, mm_c2, wt0, wt1, wt2, wt3, wt4, va_rfs, pd_bkv, pd_bkn, pd_bkif, pd_st1, Nat.reduceAdd, Nat.reduceLeDiff, Bool.or_false, Bool.or_self, sh1, ev25 (d := d) (by omega) H, eP_13]
  unfold tk
  by_cases h : pk I0 m P = x
  · have h1 : pk I0 m P ≠ 0 := by rw [h]; exact hx
    simp [h, eP_adv (pkc_lt h1 hm), pd_b]
  · simp [h, pd_b]
theorem pd_lt5 {x : Nat} (hx : x ≤ 1000) : (Int32.ofNat x < 5) = (x < 5) := pd_lt (x := x) (y := 5) (by omega) (by omega)
theorem pd_bor {a b : Bool} : pd_b a ||| pd_b b = pd_b (a || b) := by cases a <;> cases b <;> decide
theorem pk_rfs : pk I0 m (rfs P) = 0 := rfl
theorem ev28 {x : Int32} (hd : 3 ≤ d) (H : pd_H I0 A c m) (hx : x ≠ 0) : mm_ev xs Ls pd_ck pd_ak pd_mj d 28 [.ref (1 : Nat), .int x] (pd_st (pd_eP I0 c (P)) D A J n) = some (.inl (some (.int (pd_b (nd I0 m P x).1))), (pd_st (pd_eP I0 c ((nd I0 m P x).2)) D A J n)) := by
  obtain ⟨d, rfl⟩ : ∃ e, d = e + 1 := ⟨d - 1, by omega⟩
  have hm := H.2.2.2.2.2.2.1
  refine pd_ev_of (Nat.le_of_ble_eq_true rfl) ?_
  rw [show pd_mj 28 = pd_m28 from rfl, show mm_pad (mm_in [.ref (1 : Nat), .int x]) pd_m28.nL = [some (.ref (1 : Nat)), some (.int x)] from rfl]
  simp only [p28_0, p28_1, p28_4, p28_5, p28_8, p28_9, p28_10, p28_13, p28_14, p28_15, p28_16, p28_17, p28_20, p28_21, p28_22, p28_25, p28_26, gf2_3 sh1, mm_e4, pf2_3 sh1, pf2_4 sh1, qi0 sh1, mm_lA, mm_lI, mm_lD, mm_lJ, mm_ld0, mm_lds, pd_Kgo, pd_Kend, pd_Kno, pd_Kite, mm_i, mm_ii, mm_r, mm_1, mm_icmp, cond_true, cond_false, mm_o2, mm_c2, wt0, wt1, wt2, wt3, wt4, va_rfs, pd_bkv, pd_bkn, pd_bkif, pd_st1, Nat.reduceAdd, Nat.reduceLeDiff, Bool.or_false, Bool.or_self, sh1, ev25 (d := d) (by omega) H, eP_13, or_true]
  unfold nd
  by_cases h : pk I0 m P = x
  · have h1 : pk I0 m P ≠ 0 := by rw [h]; exact hx
    simp [h, eP_adv (pkc_lt h1 hm), pd_b]
  · simp [h, eP_rf, pd_b]
theorem nd_rfs {x : Int32} (hx : x ≠ 0) : nd I0 m (rfs P) x = (false, rfs P) := by
  unfold nd
  rw [pk_rfs, if_neg (fun h => hx h.symm)]
  rfl
theorem ev38 {x : Int32} {dp : Nat} (hd : 4 ≤ d) (H : pd_H I0 A c m) (hx : x ≠ 0) (hdp : dp ≤ 1000) : mm_ev xs Ls pd_ck pd_ak pd_mj d 38 [.ref (1 : Nat), .int x, .int (Int32.ofNat dp)] (pd_st (pd_eP I0 c (P)) D A J n) = some (.inl (some (.int (pd_b (opn I0 m P x dp).1))), (pd_st (pd_eP I0 c ((opn I0 m P x dp).2)) D A J n)) := by
  obtain ⟨d, rfl⟩ : ∃ e, d = e + 1 := ⟨d - 1, by omega⟩
  refine pd_ev_of (Nat.le_of_ble_eq_true rfl) ?_
  rw [show pd_mj 38 = pd_m38 from rfl, show mm_pad (mm_in [.ref (1 : Nat), .int x, .int (Int32.ofNat dp)]) pd_m38.nL = [some (.ref (1 : Nat)), some (.int x), some (.int (Int32.ofNat dp))] from rfl]
  simp only [p38_0, p38_1, p38_2, p38_5, p38_6, p38_7, p38_10, p38_11, p38_12, p38_15, mm_e4, pf2_4 sh1, qi1 sh1, mm_lA, mm_lI, mm_lD, mm_lJ, mm_ld0, mm_lds, pd_Kgo, pd_Kend, pd_Kno, pd_Kite, mm_i, mm_ii, mm_r, mm_1, mm_icmp, cond_true, cond_false, mm_o2, mm_c2, wt0, wt1, wt2, wt3, wt4, va_rfs, pd_bkv, pd_bkn, pd_bkif, pd_st1, Nat.reduceAdd, Nat.reduceLeDiff, Bool.or_false, Bool.or_self, pd_lt5 hdp, or_true, eP_rf, ev28 (d := d) (by omega) H hx, pd_bt]
  unfold opn
  by_cases h : dp < 5
  · simp [h, show ¬ 5 ≤ dp by omega]
  · simp [h, show 5 ≤ dp by omega, nd_rfs hx]
theorem ev36 {hi : Int32} (hd : 2 ≤ d) (H : pd_H I0 A c m) : mm_ev xs Ls pd_ck pd_ak pd_mj d 36 [.ref (1 : Nat), .int hi] (pd_st (pd_eP I0 c (P)) D A J n) = some (.inl (some (.int (dg I0 m P hi).1)), (pd_st (pd_eP I0 c ((dg I0 m P hi).2)) D A J n)) := by
  obtain ⟨d, rfl⟩ : ∃ e, d = e + 1 := ⟨d - 1, by omega⟩
  have hm := H.2.2.2.2.2.2.1
  refine pd_ev_of (Nat.le_of_ble_eq_true rfl) ?_
  rw [show pd_mj 36 = pd_m36 from rfl, show mm_pad (mm_in [.ref (1 : Nat), .int hi]) pd_m36.nL = [some (.ref (1 : Nat)), some (.int hi), none] from rfl]
  simp only [p36_0, p36_1, p36_4, p36_5, p36_6, p36_8, p36_11, p36_12, p36_13, p36_16, p36_17, p36_18, p36_21, p36_22, p36_23, p36_24, p36_25, p36_28, p36_29, p36_30, p36_33, p36_34, p36_36, p36_37, gf2_3 sh1, mm_e0, pf2_3 sh1, pf2_4 sh1, qi0 sh1, so3_2i, mm_lA, mm_lI, mm_lD, mm_lJ, mm_ld0, mm_lds, pd_Kgo, pd_Kend, pd_Kno, pd_Kite, mm_i, mm_ii, mm_r, mm_1, mm_icmp, cond_true, cond_false, mm_o2, mm_c2, wt0, wt1, wt2, wt3, wt4, va_rfs, pd_bkv, pd_bkn, pd_bkif, pd_st1, Nat.reduceAdd, Nat.reduceLeDiff, Bool.or_false, Bool.or_self, ev25 (d := d) (by omega) H, or_true, eP_rf, eP_13]
  unfold dg
  by_cases h1 : pk I0 m P < 48
  · simp [h1]
  · by_cases h2 : hi < pk I0 m P
    · simp [h1, h2, show ¬ pk I0 m P ≤ hi from Int32.not_le.mpr h2]
    · have h3 : pk I0 m P ≠ 0 := by intro h; rw [h] at h1; exact h1 (by decide)
      simp [h1, h2, show pk I0 m P ≤ hi from Int32.not_lt.mp h2, eP_adv (pkc_lt h3 hm)]
theorem ev39 {b : Bool} (hd : 1 ≤ d) : mm_ev xs Ls pd_ck pd_ak pd_mj d 39 [.ref (1 : Nat), .int (pd_b b)] (pd_st (pd_eP I0 c (P)) D A J n) = some (.inl none, (pd_st (pd_eP I0 c (ni P b)) D A J n)) := by
  obtain ⟨d, rfl⟩ : ∃ e, d = e + 1 := ⟨d - 1, by omega⟩
  refine pd_ev_of (Nat.le_of_ble_eq_true rfl) ?_
  rw [show pd_mj 39 = pd_m39 from rfl, show mm_pad (mm_in [.ref (1 : Nat), .int (pd_b b)]) pd_m39.nL = [some (.ref (1 : Nat)), some (.int (pd_b b))] from rfl]
  simp only [p39_0, p39_1, p39_4, p39_5, p39_6, p39_9, mm_rV, pf2_5 sh1, mm_lA, mm_lI, mm_lD, mm_lJ, mm_ld0, mm_lds, pd_Kgo, pd_Kend, pd_Kno, pd_Kite, mm_i, mm_ii, mm_r, mm_1, mm_icmp, cond_true, cond_false, mm_o2, mm_c2, wt0, wt1, wt2, wt3, wt4, va_rfs, pd_bkv, pd_bkn, pd_bkif, pd_st1, Nat.reduceAdd, Nat.reduceLeDiff, Bool.or_false, Bool.or_self, pd_b0, or_true, eP_tw]
  unfold ni
  cases b <;> simp
theorem ev34 {x : Int32} {S : mm_St} (hd : 1 ≤ d) : mm_ev xs Ls pd_ck pd_ak pd_mj d 34 [.int x] S = some (.inl (some (.int (pd_b (isD x)))), S) := by
  obtain ⟨d, rfl⟩ : ∃ e, d = e + 1 := ⟨d - 1, by omega⟩
  refine pd_ev_of (Nat.le_of_ble_eq_true rfl) ?_
  rw [show pd_mj 34 = pd_m34 from rfl, show mm_pad (mm_in [.int x]) pd_m34.nL = [some (.int x)] from rfl]
  simp only [p34_0, p34_1, p34_3, p34_6, p34_7, p34_9, p34_12, p34_13, p34_16, p34_17, mm_e4, mm_lA, mm_lI, mm_lD, mm_lJ, mm_ld0, mm_lds, pd_Kgo, pd_Kend, pd_Kno, pd_Kite, mm_i, mm_ii, mm_r, mm_1, mm_icmp, cond_true, cond_false, mm_o2, mm_c2, wt0, wt1, wt2, wt3, wt4, va_rfs, pd_bkv, pd_bkn, pd_bkif, pd_st1, Nat.reduceAdd, Nat.reduceLeDiff, Bool.or_false, Bool.or_self, or_true, true_or]
  unfold isD
  by_cases h1 : x < 48
  · simp [h1, pd_b]
  · by_cases h2 : 57 < x <;> simp [h1, h2, pd_b]
theorem ev26 {x : Int32} {S : mm_St} (hd : 1 ≤ d) : mm_ev xs Ls pd_ck pd_ak pd_mj d 26 [.int x] S = some (.inl (some (.int (sv x))), S) := by
  obtain ⟨d, rfl⟩ : ∃ e, d = e + 1 := ⟨d - 1, by omega⟩
  refine pd_ev_of (Nat.le_of_ble_eq_true rfl) ?_
  rw [show pd_mj 26 = pd_m26 from rfl, show mm_pad (mm_in [.int x]) pd_m26.nL = [some (.int x)] from rfl]
  simp only [p26_0, p26_1, p26_3, p26_6, p26_7, p26_9, p26_12, p26_13, p26_15, p26_16, p26_17, p26_18, p26_20, p26_23, p26_24, p26_26, p26_29, p26_30, p26_32, p26_33, p26_34, p26_35, p26_36, p26_37, mm_e0, mm_lA, mm_lI, mm_lD, mm_lJ, mm_ld0, mm_lds, pd_Kgo, pd_Kend, pd_Kno, pd_Kite, mm_i, mm_ii, mm_r, mm_1, mm_icmp, cond_true, cond_false, mm_o2, mm_c2, wt0, wt1, wt2, wt3, wt4, va_rfs, pd_bkv, pd_bkn, pd_bkif, pd_st1, Nat.reduceAdd, Nat.reduceLeDiff, Bool.or_false, Bool.or_self]
  unfold sv
  by_cases h1 : x < 97 <;> by_cases h2 : 100 < x <;> by_cases h3 : x < 114 <;> by_cases h4 : 116 < x <;> simp [h1, h2, h3, h4]
/-- isReal of a variable's number -/
def isR (x : Int32) : Bool := if x < 4 then false else if 7 ≤ x then false else true
theorem ev67 {x : Int32} {S : mm_St} (hd : 1 ≤ d) : mm_ev xs Ls pd_ck pd_ak pd_mj d 67 [.int x] S = some (.inl (some (.int (pd_b (isR x)))), S) := by
  obtain ⟨d, rfl⟩ : ∃ e, d = e + 1 := ⟨d - 1, by omega⟩
  refine pd_ev_of (Nat.le_of_ble_eq_true rfl) ?_
  rw [show pd_mj 67 = pd_m67 from rfl, show mm_pad (mm_in [.int x]) pd_m67.nL = [some (.int x)] from rfl]
  simp only [p67_0, p67_1, p67_2, p67_5, p67_6, p67_8, p67_11, p67_12, p67_15, p67_16, mm_e4, mm_lA, mm_lI, mm_lD, mm_lJ, mm_ld0, mm_lds, pd_Kgo, pd_Kend, pd_Kno, pd_Kite, mm_i, mm_ii, mm_r, mm_1, mm_icmp, cond_true, cond_false, mm_o2, mm_c2, wt0, wt1, wt2, wt3, wt4, va_rfs, pd_bkv, pd_bkn, pd_bkif, pd_st1, Nat.reduceAdd, Nat.reduceLeDiff, Bool.or_false, Bool.or_self, or_true, true_or]
  unfold isR
  by_cases h1 : x < 4
  · simp [h1, pd_b]
  · by_cases h2 : 7 ≤ x <;> simp [h1, h2, pd_b]
theorem pd_lt49 {x : Nat} (hx : x ≤ 1000) : (49 ≤ Int32.ofNat x) = (49 ≤ x) := pd_le (x := 49) (y := x) (by omega) (by omega)
theorem pd_ge0 {x : Nat} (hx : x ≤ 1000) : (Int32.ofNat x < 0) = False := by
  rw [show (Int32.ofNat x < 0) = (x < 0) from pd_lt (x := x) (y := 0) (by omega) (by omega)]
  simp
theorem pd_ic {a k mm : Nat} {I : pd_I} {x : Int32} {pc : Nat} {L : mm_L} {r : List Value} (h1 : pd_SH[a]? = some (.inr (0, mm))) (hk : k < mm) (hm : mm ≤ 1000) : (mm_ai pd_ak (pd_st I D A J n) (.int (Int32.ofNat k) :: .ref a :: r) 0 fun i a r => mm_go pc L r (mm_sI (pd_st I D A J n) a i.toNatClampNeg x)) = mm_go pc L r (pd_st (mm_u I a k x) D A J n) := by
  rw [pd_ai (ty := 0) h1 rfl hk hm, pd_nn (by omega)]
  rfl
theorem ev14 {o v : Int32} (hd : 1 ≤ d) (H : pd_H I0 A c m) : mm_ev xs Ls pd_ck pd_ak pd_mj d 14 [.ref c, .int o, .int v] (pd_st (pd_eP I0 c (P)) D A J n) = some (.inl (some (.int (Int32.ofNat (pN P)))), (pd_st (pd_eP I0 c (add P o v)) D A J n)) := by
  obtain ⟨d, rfl⟩ : ∃ e, d = e + 1 := ⟨d - 1, by omega⟩
  obtain ⟨hc, a10, a12, ac0, ac1, h11, hm, hch⟩ := id H
  have hN := pN_le P
  refine pd_ev_of (Nat.le_of_ble_eq_true rfl) ?_
  rw [show pd_mj 14 = pd_m14 from rfl, show mm_pad (mm_in [.ref c, .int o, .int v]) pd_m14.nL = [some (.ref c), some (.int o), some (.int v), none] from rfl]
  simp only [p14_0, p14_1, p14_4, p14_5, p14_6, p14_8, p14_11, p14_12, p14_15, p14_16, p14_17, p14_18, p14_19, p14_22, p14_23, p14_24, p14_25, p14_26, p14_27, p14_30, p14_31, p14_32, p14_35, p14_36, gf1_0 hc.sh, gf1_1 hc.sh, gf1_2 hc.sh, mm_e0, pd_stI, pf1_2 hc.sh, so4_3i, mm_lA, mm_lI, mm_lD, mm_lJ, mm_ld0, mm_lds, pd_Kgo, pd_Kend, pd_Kno, pd_Kite, mm_i, mm_ii, mm_r, mm_1, mm_icmp, cond_true, cond_false, mm_o2, mm_c2, wt0, wt1, wt2, wt3, wt4, va_rfs, pd_bkv, pd_bkn, pd_bkif, pd_st1, Nat.reduceAdd, Nat.reduceLeDiff, Bool.or_false, Bool.or_self, eP_c2 hc, pd_lt49 (x := pN P) (by omega), ac0, ac1]
  by_cases h : 49 ≤ pN P
  · simp only [if_pos h]
    unfold add
    rw [dif_neg (by omega)]
  · simp only [if_neg h, pd_ic (hc.sh1) (show pN P < 49 by omega) (by omega)]
    simp only [p14_0, p14_1, p14_4, p14_5, p14_6, p14_8, p14_11, p14_12, p14_15, p14_16, p14_17, p14_18, p14_19, p14_22, p14_23, p14_24, p14_25, p14_26, p14_27, p14_30, p14_31, p14_32, p14_35, p14_36, gf1_0 hc.sh, gf1_1 hc.sh, gf1_2 hc.sh, mm_e0, pd_stI, pf1_2 hc.sh, so4_3i, mm_lA, mm_lI, mm_lD, mm_lJ, mm_ld0, mm_lds, pd_Kgo, pd_Kend, pd_Kno, pd_Kite, mm_i, mm_ii, mm_r, mm_1, mm_icmp, cond_true, cond_false, mm_o2, mm_c2, wt0, wt1, wt2, wt3, wt4, va_rfs, pd_bkv, pd_bkn, pd_bkif, pd_st1, Nat.reduceAdd, Nat.reduceLeDiff, Bool.or_false, Bool.or_self, eP_c2 hc, pd_lt49 (x := pN P) (by omega), ac0, ac1]
    simp only [if_neg h, pd_ic (hc.sh2) (show pN P < 49 by omega) (by omega)]
    have e1 : mm_u (mm_u (pd_eP I0 c P) (c + 1) (pN P) o) (c + 2) (pN P) v c 2 = Int32.ofNat (pN P) := by
      rw [mm_u_a (by omega), mm_u_a (by omega), eP_c2 hc]
    simp only [p14_0, p14_1, p14_4, p14_5, p14_6, p14_8, p14_11, p14_12, p14_15, p14_16, p14_17, p14_18, p14_19, p14_22, p14_23, p14_24, p14_25, p14_26, p14_27, p14_30, p14_31, p14_32, p14_35, p14_36, gf1_0 hc.sh, gf1_1 hc.sh, gf1_2 hc.sh, mm_e0, pd_stI, pf1_2 hc.sh, so4_3i, mm_lA, mm_lI, mm_lD, mm_lJ, mm_ld0, mm_lds, pd_Kgo, pd_Kend, pd_Kno, pd_Kite, mm_i, mm_ii, mm_r, mm_1, mm_icmp, cond_true, cond_false, mm_o2, mm_c2, wt0, wt1, wt2, wt3, wt4, va_rfs, pd_bkv, pd_bkn, pd_bkif, pd_st1, Nat.reduceAdd, Nat.reduceLeDiff, Bool.or_false, Bool.or_self, e1, ac0, ac1]
    rw [eP_add hc (by omega)]
theorem ev15 {k : Nat} (hd : 1 ≤ d) (H : pd_H I0 A c m) (hk : k ≤ 1000) : mm_ev xs Ls pd_ck pd_ak pd_mj d 15 [.ref c, .int (Int32.ofNat k)] (pd_st (pd_eP I0 c (P)) D A J n) = some (.inl none, (pd_st (pd_eP I0 c (ptH P k)) D A J n)) := by
  obtain ⟨d, rfl⟩ : ∃ e, d = e + 1 := ⟨d - 1, by omega⟩
  obtain ⟨hc, a10, a12, ac0, ac1, h11, hm, hch⟩ := id H
  have hN := pN_le P
  refine pd_ev_of (Nat.le_of_ble_eq_true rfl) ?_
  rw [show pd_mj 15 = pd_m15 from rfl, show mm_pad (mm_in [.ref c, .int (Int32.ofNat k)]) pd_m15.nL = [some (.ref c), some (.int (Int32.ofNat k))] from rfl]
  simp only [p15_0, p15_1, p15_4, p15_5, p15_7, p15_10, p15_11, p15_14, p15_15, p15_16, p15_19, p15_20, gf1_1 hc.sh, gf1_2 hc.sh, mm_rV, pd_stI, mm_lA, mm_lI, mm_lD, mm_lJ, mm_ld0, mm_lds, pd_Kgo, pd_Kend, pd_Kno, pd_Kite, mm_i, mm_ii, mm_r, mm_1, mm_icmp, cond_true, cond_false, mm_o2, mm_c2, wt0, wt1, wt2, wt3, wt4, va_rfs, pd_bkv, pd_bkn, pd_bkif, pd_st1, Nat.reduceAdd, Nat.reduceLeDiff, Bool.or_false, Bool.or_self, eP_c2 hc, pd_lt49 (x := k) (by omega), pd_ge0 hk, ac1, if_false]
  by_cases h : 49 ≤ k
  · simp only [if_pos h]
    unfold ptH
    rw [if_neg (by omega)]
  · simp only [if_neg h, pd_ic (hc.sh2) (show k < 49 by omega) (by omega)]
    simp only [p15_0, p15_1, p15_4, p15_5, p15_7, p15_10, p15_11, p15_14, p15_15, p15_16, p15_19, p15_20, gf1_1 hc.sh, gf1_2 hc.sh, mm_rV, pd_stI, mm_lA, mm_lI, mm_lD, mm_lJ, mm_ld0, mm_lds, pd_Kgo, pd_Kend, pd_Kno, pd_Kite, mm_i, mm_ii, mm_r, mm_1, mm_icmp, cond_true, cond_false, mm_o2, mm_c2, wt0, wt1, wt2, wt3, wt4, va_rfs, pd_bkv, pd_bkn, pd_bkif, pd_st1, Nat.reduceAdd, Nat.reduceLeDiff, Bool.or_false, Bool.or_self, ac1]
    rw [eP_pt hc (by omega)]
theorem ev16 (hd : 1 ≤ d) (H : pd_H I0 A c m) : mm_ev xs Ls pd_ck pd_ak pd_mj d 16 [.ref c] (pd_st (pd_eP I0 c (P)) D A J n) = some (.inl (some (.int (Int32.ofNat (pN P)))), (pd_st (pd_eP I0 c (P)) D A J n)) := by
  obtain ⟨d, rfl⟩ : ∃ e, d = e + 1 := ⟨d - 1, by omega⟩
  obtain ⟨hc, a10, a12, ac0, ac1, h11, hm, hch⟩ := id H
  refine pd_ev_of (Nat.le_of_ble_eq_true rfl) ?_
  rw [show pd_mj 16 = pd_m16 from rfl, show mm_pad (mm_in [.ref c]) pd_m16.nL = [some (.ref c)] from rfl]
  simp only [p16_0, p16_1, p16_4, gf1_2 hc.sh, mm_e0, mm_lA, mm_lI, mm_lD, mm_lJ, mm_ld0, mm_lds, pd_Kgo, pd_Kend, pd_Kno, pd_Kite, mm_i, mm_ii, mm_r, mm_1, mm_icmp, cond_true, cond_false, mm_o2, mm_c2, wt0, wt1, wt2, wt3, wt4, va_rfs, pd_bkv, pd_bkn, pd_bkif, pd_st1, Nat.reduceAdd, Nat.reduceLeDiff, Bool.or_false, Bool.or_self, eP_c2 hc]
end PAR1
