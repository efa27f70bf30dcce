/-! THE REFERENCE's READER: the rest of its methods -/
def ovr (Q : pq) : pq := qov (qh Q) Q
def rdc (r : Int32) (Q : pq) : pq := qred r (qh Q) Q
def iW (c : Int32) : Bool := if c < 97 then false else if 100 < c then false else true
def iX (c : Int32) : Bool := if c < 114 then false else if 116 < c then false else true
/-- statement -/
def qst (c : Int32) (Q : pq) : Int32 × pq :=
  if iW c = true then (7, sG (sN Q (qn Q + 1)) (c - 97)) else if iX c = true then (7, sG (sN Q (qn Q + 1)) (4 + c - 114))
  else if c = 118 then (5, sN Q (qn Q + 1)) else if c = 33 then (1, qpu (sN Q (qn Q + 1)) 4) else if c = 63 then (1, qpu (sN Q (qn Q + 1)) 2)
  else if c = 64 then (1, qpu (sN Q (qn Q + 1)) 3) else if c = 38 then (4, sN Q (qn Q + 1)) else if c = 87 then (8, sG (sN Q (qn Q + 1)) c)
  else if c = 83 then (8, sG (sN Q (qn Q + 1)) c) else if c = 80 then (9, sG (sN Q (qn Q + 1)) c) else (-1, sN Q (qn Q + 1))
/-- unit -/
def qun (c : Int32) (Q : pq) : Int32 × pq :=
  if iW c = true then (2, ovr (qop (qem Q 2 (c - 97)) false)) else if iX c = true then (2, ovr (qop (qem Q 2 (4 + c - 114)) true))
  else if c = 118 then (6, Q) else if c = 40 then qpd Q 6 else if c = 35 then qpd Q 8 else (-1, Q)
/-- single -/
def qsi (s c : Int32) (Q : pq) : Int32 × pq :=
  if s = 4 then (if c = 123 then (if qd Q = 5 then (-1, Q) else (0, qem (qpu (sD Q (qd Q + 1)) 12) 26 0)) else (-1, Q))
  else if s = 5 then (if c = 91 then qpd Q 7 else (-1, Q)) else if s = 6 then (if c = 91 then qpd Q 5 else (-1, Q))
  else if s = 7 then (if c = 61 then (1, qpu Q 1) else (-1, Q))
  else if c < 48 then (-1, Q) else if c ≤ (if s = 8 then 49 else 51) then (3, qem Q (if qg Q = 87 then 23 else if qg Q = 83 then 24 else 25) (c - 48)) else (-1, Q)
/-- binary -/
def qbi (c : Int32) (Q : pq) : Int32 × pq :=
  if rk c = 1 then (if rk (qab (rdc 2 Q)) = 1 then (-1, rdc 2 Q) else (1, qpu (rdc 2 Q) c)) else (1, qpu (rdc (rk c) Q) c)
section REF2
variable {I0 I : pd_I} {D : pd_D} {A : pd_A} {J : pd_J} {n : Nat} {Q : pq} {xs : Nat → Int32} {Ls d : Nat} {q : Nat → Nat} {pc : Nat} {L : mm_L} {r : List Value}
theorem ev101 {c : Int32} {S : mm_St} (hd : 1 ≤ d) : mm_ev xs Ls pd_ck pd_ak pd_mj d 101 [.ref (43 : Nat), .int c] S = some (.inl (some (.int (pd_b (iW c)))), S) := by
  obtain ⟨d, rfl⟩ : ∃ e, d = e + 1 := ⟨d - 1, by omega⟩
  refine pd_ev_of (Nat.le_of_ble_eq_true rfl) ?_
  rw [show pd_mj 101 = pd_m101 from rfl, show mm_pad (mm_in [.ref (43 : Nat), .int c]) pd_m101.nL = [some (.ref (43 : Nat)), some (.int c)] from rfl]
  simp only [p101_0, p101_1, p101_3, p101_6, p101_7, p101_9, p101_12, p101_13, p101_16, p101_17, mm_e4, mm_lA, mm_lI, mm_lD, mm_lJ, mm_ld0, mm_lds, pd_Kgo, pd_Kend, pd_Kno, pd_Kite, mm_i, mm_ii, mm_r, mm_1, mm_icmp, cond_true, cond_false, mm_o2, mm_c2, wt0, wt1, wt2, wt3, wt4, va_rfs, pd_bkv, pd_bkn, pd_bkif, pd_st1, Nat.reduceAdd, Nat.reduceLeDiff, Bool.or_false, Bool.or_self, or_true, true_or]
  unfold iW
  by_cases h1 : c < 97
  · simp [h1, pd_b]
  · by_cases h2 : 100 < c
    · simp [h1, h2, pd_b, Int32.not_le.mpr h2]
    · simp [h1, h2, pd_b, Int32.not_lt.mp h2]
theorem ev102 {c : Int32} {S : mm_St} (hd : 1 ≤ d) : mm_ev xs Ls pd_ck pd_ak pd_mj d 102 [.ref (43 : Nat), .int c] S = some (.inl (some (.int (pd_b (iX c)))), S) := by
  obtain ⟨d, rfl⟩ : ∃ e, d = e + 1 := ⟨d - 1, by omega⟩
  refine pd_ev_of (Nat.le_of_ble_eq_true rfl) ?_
  rw [show pd_mj 102 = pd_m102 from rfl, show mm_pad (mm_in [.ref (43 : Nat), .int c]) pd_m102.nL = [some (.ref (43 : Nat)), some (.int c)] from rfl]
  simp only [p102_0, p102_1, p102_3, p102_6, p102_7, p102_9, p102_12, p102_13, p102_16, p102_17, mm_e4, mm_lA, mm_lI, mm_lD, mm_lJ, mm_ld0, mm_lds, pd_Kgo, pd_Kend, pd_Kno, pd_Kite, mm_i, mm_ii, mm_r, mm_1, mm_icmp, cond_true, cond_false, mm_o2, mm_c2, wt0, wt1, wt2, wt3, wt4, va_rfs, pd_bkv, pd_bkn, pd_bkif, pd_st1, Nat.reduceAdd, Nat.reduceLeDiff, Bool.or_false, Bool.or_self, or_true, true_or]
  unfold iX
  by_cases h1 : c < 114
  · simp [h1, pd_b]
  · by_cases h2 : 116 < c
    · simp [h1, h2, pd_b, Int32.not_le.mpr h2]
    · simp [h1, h2, pd_b, Int32.not_lt.mp h2]
theorem ev100 {c : Int32} (hd : 2 ≤ d) (hh : qh Q < 64) : mm_ev xs Ls pd_ck pd_ak pd_mj d 100 [.ref (43 : Nat), .int c] (pd_st (eQ I0 (Q)) D (pd_RF q) J n) = some (.inl (some (.int (qst c Q).1)), (pd_st (eQ I0 ((qst c Q).2)) D (pd_RF q) J n)) := by
  obtain ⟨d, rfl⟩ : ∃ e, d = e + 1 := ⟨d - 1, by omega⟩
  have h9 : ∀ mk, mm_ev xs Ls pd_ck pd_ak pd_mj d 103 [.ref (43 : Nat), .int mk] (pd_st (eQ I0 (sN Q (qn Q + 1))) D (pd_RF q) J n) = some (.inl none, (pd_st (eQ I0 (qpu (sN Q (qn Q + 1)) mk)) D (pd_RF q) J n)) := fun mk => ev103 (by omega) hh
  refine pd_ev_of (Nat.le_of_ble_eq_true rfl) ?_
  rw [show pd_mj 100 = pd_m100 from rfl, show mm_pad (mm_in [.ref (43 : Nat), .int c]) pd_m100.nL = [some (.ref (43 : Nat)), some (.int c)] from rfl]
  simp only [p100_0, p100_1, p100_2, p100_5, p100_6, p100_7, p100_10, p100_11, p100_12, p100_15, p100_18, p100_19, p100_20, p100_23, p100_26, p100_27, p100_28, p100_29, p100_32, p100_35, p100_36, p100_38, p100_39, p100_42, p100_43, p100_44, p100_45, p100_47, p100_48, p100_51, p100_53, p100_54, p100_55, p100_57, p100_60, p100_61, p100_62, p100_63, p100_65, p100_68, p100_69, p100_71, p100_74, p100_75, p100_77, p100_80, p100_81, p100_82, p100_84, p100_87, p100_88, p100_91, p100_92, p100_94, p100_97, p100_98, p100_101, p100_102, p100_105, p100_106, p100_107, p100_108, p100_110, p100_113, p100_114, p100_115, p100_116, p100_118, p100_121, p100_122, p100_124, p100_127, p100_128, p100_130, p100_133, p100_134, p100_135, p100_138, p100_139, p100_141, p100_144, p100_146, p100_149, p100_151, p100_152, p100_153, gf7_14 sh43, mm_e0, pf7_13 sh43, pf7_14 sh43, qi1 sh43, mm_lA, mm_lI, mm_lD, mm_lJ, mm_ld0, mm_lds, pd_Kgo, pd_Kend, pd_Kno, pd_Kite, mm_i, mm_ii, mm_r, mm_1, mm_icmp, cond_true, cond_false, mm_o2, mm_c2, wt0, wt1, wt2, wt3, wt4, va_rfs, pd_bkv, pd_bkn, pd_bkif, pd_st1, Nat.reduceAdd, Nat.reduceLeDiff, Bool.or_false, Bool.or_self, eQ_n, wQ_n, wQ_g, ev101 (d := d) (by omega), ev102 (d := d) (by omega), pd_b0, h9]
  unfold qst
  cases h1 : iW c
  · cases h2 : iX c
    · by_cases k1 : c = 118
      · simp [k1]
      · by_cases k2 : c = 33
        · simp [k2]
        · by_cases k3 : c = 63
          · simp [k3]
          · by_cases k4 : c = 64
            · simp [k4]
            · by_cases k5 : c = 38
              · simp [k5]
              · by_cases k6 : c = 87
                · simp [k6]
                · by_cases k7 : c = 83
                  · simp [k7]
                  · by_cases k8 : c = 80
                    · simp [k8]
                    · simp [k1, k2, k3, k4, k5, k6, k7, k8]
    · simp
  · simp
/-- what over wants, of a state within its bounds -/
theorem okO_of : ∀ (f : Nat) (Q : pq), qh Q ≤ f → qs Q + qh Q ≤ 128 → qh Q ≤ 64 → (1 ≤ qt Q ∧ qt Q ≤ 64) → okO f Q := by
  intro f
  induction f with
  | zero =>
    intro Q h1 h2 h3 h4
    refine ⟨?_, h3⟩
    intro h9
    have := qab8 h9
    omega
  | succ f ih =>
    intro Q h1 h2 h3 h4
    refine ⟨h3, fun h9 => ?_⟩
    have := qab8 h9
    refine ⟨by omega, h4.1, h4.2, ih (ov1 Q) ?_ ?_ ?_ ?_⟩
    · show qh Q - 1 ≤ f; omega
    · show qs Q + 1 + (qh Q - 1) ≤ 128; omega
    · show qh Q - 1 ≤ 64; omega
    · exact h4
/-- the bounds that hold while the reference reads -/
def bnd (Q : pq) : Prop := qs Q + qh Q ≤ 64 ∧ qt Q ≤ 63
theorem ev98' (hd : 2 ≤ d) (hb : bnd Q) (h1 : 1 ≤ qt Q) : mm_ev xs Ls pd_ck pd_ak pd_mj d 98 [.ref (43 : Nat)] (pd_st (eQ I0 (Q)) D (pd_RF q) J n) = some (.inl (some (.int 2)), (pd_st (eQ I0 (ovr Q)) D (pd_RF q) J n)) := ev98 hd (okO_of _ Q (Nat.le_refl _) (by have := hb.1; omega) (by have := hb.1; omega) ⟨h1, by have := hb.2; omega⟩)
theorem ev97t (hd : 1 ≤ d) (ht : qt Q < 64) : mm_ev xs Ls pd_ck pd_ak pd_mj d 97 [.ref (43 : Nat), .int 1] (pd_st (eQ I0 (Q)) D (pd_RF q) J n) = some (.inl none, (pd_st (eQ I0 (qop Q true)) D (pd_RF q) J n)) := ev97 (b := true) hd ht
theorem ev97f (hd : 1 ≤ d) (ht : qt Q < 64) : mm_ev xs Ls pd_ck pd_ak pd_mj d 97 [.ref (43 : Nat), .int 0] (pd_st (eQ I0 (Q)) D (pd_RF q) J n) = some (.inl none, (pd_st (eQ I0 (qop Q false)) D (pd_RF q) J n)) := ev97 (b := false) hd ht
theorem ev104 {c : Int32} (hd : 3 ≤ d) (hb : bnd (qop (qem Q 2 0) false)) : mm_ev xs Ls pd_ck pd_ak pd_mj d 104 [.ref (43 : Nat), .int c] (pd_st (eQ I0 (Q)) D (pd_RF q) J n) = some (.inl (some (.int (qun c Q).1)), (pd_st (eQ I0 ((qun c Q).2)) D (pd_RF q) J n)) := by
  obtain ⟨d, rfl⟩ : ∃ e, d = e + 1 := ⟨d - 1, by omega⟩
  have b1 : qs Q + 1 + qh Q ≤ 64 := hb.1
  have b2 : qt Q + 1 ≤ 63 := hb.2
  have e96 : ∀ a, mm_ev xs Ls pd_ck pd_ak pd_mj d 96 [.ref (43 : Nat), .int 2, .int a] (pd_st (eQ I0 (Q)) D (pd_RF q) J n) = some (.inl none, (pd_st (eQ I0 (qem Q 2 a)) D (pd_RF q) J n)) := fun a => ev96 (by omega) (by omega)
  have e97 : ∀ a (b : Bool), mm_ev xs Ls pd_ck pd_ak pd_mj d 97 [.ref (43 : Nat), .int (pd_b b)] (pd_st (eQ I0 (qem Q 2 a)) D (pd_RF q) J n) = some (.inl none, (pd_st (eQ I0 (qop (qem Q 2 a) b)) D (pd_RF q) J n)) := fun a b => ev97 (by omega) (show qt Q < 64 by omega)
  have e98 : ∀ a (b : Bool), mm_ev xs Ls pd_ck pd_ak pd_mj d 98 [.ref (43 : Nat)] (pd_st (eQ I0 (qop (qem Q 2 a) b)) D (pd_RF q) J n) = some (.inl (some (.int 2)), (pd_st (eQ I0 (ovr (qop (qem Q 2 a) b))) D (pd_RF q) J n)) := fun a b => ev98' (by omega) ⟨show qs Q + 1 + qh Q ≤ 64 from b1, show qt Q + 1 ≤ 63 from b2⟩ (show 1 ≤ qt Q + 1 by omega)
  refine pd_ev_of (Nat.le_of_ble_eq_true rfl) ?_
  rw [show pd_mj 104 = pd_m104 from rfl, show mm_pad (mm_in [.ref (43 : Nat), .int c]) pd_m104.nL = [some (.ref (43 : Nat)), some (.int c)] from rfl]
  simp only [p104_0, p104_1, p104_2, p104_5, p104_8, p104_9, p104_10, p104_13, p104_16, p104_17, p104_18, p104_19, p104_20, p104_23, p104_26, p104_27, p104_29, p104_30, p104_33, p104_34, p104_35, p104_36, p104_38, p104_39, p104_42, p104_43, p104_44, p104_45, p104_48, p104_51, p104_52, p104_55, p104_56, p104_57, p104_59, p104_62, p104_64, p104_65, p104_66, p104_68, p104_71, p104_72, p104_74, p104_77, p104_78, p104_79, p104_81, p104_84, p104_85, p104_87, p104_90, p104_93, p104_94, mm_e0, qi0 sh43, qi1 sh43, qi2 sh43, mm_lA, mm_lI, mm_lD, mm_lJ, mm_ld0, mm_lds, pd_Kgo, pd_Kend, pd_Kno, pd_Kite, mm_i, mm_ii, mm_r, mm_1, mm_icmp, cond_true, cond_false, mm_o2, mm_c2, wt0, wt1, wt2, wt3, wt4, va_rfs, pd_bkv, pd_bkn, pd_bkif, pd_st1, Nat.reduceAdd, Nat.reduceLeDiff, Bool.or_false, Bool.or_self, ev101 (d := d) (by omega), ev102 (d := d) (by omega), pd_b0, e96, e97, e98, ev105 (d := d) (Q := Q) (by omega) (by omega)]
  unfold qun
  cases h1 : iW c
  · cases h2 : iX c
    · by_cases k1 : c = 118
      · simp [k1]
      · by_cases k2 : c = 40
        · simp [k2]
        · by_cases k3 : c = 35
          · simp [k3]
          · simp [k1, k2, k3]
    · simp
  · cases h2 : iX c
    · simp
    · exfalso
      unfold iW at h1
      unfold iX at h2
      split at h1
      · cases h1
      · next k1 =>
        split at h1
        · cases h1
        · next k2 =>
          split at h2
          · cases h2
          · next k3 => exact k3 (Int32.lt_of_le_of_lt (Int32.not_lt.mp k2) (by decide))
theorem ev112 {s c : Int32} (hd : 3 ≤ d) (hb : qs Q + qh Q ≤ 62) : mm_ev xs Ls pd_ck pd_ak pd_mj d 112 [.ref (43 : Nat), .int s, .int c] (pd_st (eQ I0 (Q)) D (pd_RF q) J n) = some (.inl (some (.int (qsi s c Q).1)), (pd_st (eQ I0 ((qsi s c Q).2)) D (pd_RF q) J n)) := by
  obtain ⟨d, rfl⟩ : ∃ e, d = e + 1 := ⟨d - 1, by omega⟩
  have e105 : ∀ mk, mm_ev xs Ls pd_ck pd_ak pd_mj d 105 [.ref (43 : Nat), .int mk] (pd_st (eQ I0 (Q)) D (pd_RF q) J n) = some (.inl (some (.int (qpd Q mk).1)), (pd_st (eQ I0 ((qpd Q mk).2)) D (pd_RF q) J n)) := fun mk => ev105 (by omega) (by omega)
  have e103 : mm_ev xs Ls pd_ck pd_ak pd_mj d 103 [.ref (43 : Nat), .int 12] (pd_st (eQ I0 (sD Q (qd Q + 1))) D (pd_RF q) J n) = some (.inl none, (pd_st (eQ I0 (qpu (sD Q (qd Q + 1)) 12)) D (pd_RF q) J n)) := ev103 (by omega) (show qh Q < 64 by omega)
  have e103' : mm_ev xs Ls pd_ck pd_ak pd_mj d 103 [.ref (43 : Nat), .int 1] (pd_st (eQ I0 (Q)) D (pd_RF q) J n) = some (.inl none, (pd_st (eQ I0 (qpu Q 1)) D (pd_RF q) J n)) := ev103 (by omega) (show qh Q < 64 by omega)
  have e96 : mm_ev xs Ls pd_ck pd_ak pd_mj d 96 [.ref (43 : Nat), .int 26, .int 0] (pd_st (eQ I0 (qpu (sD Q (qd Q + 1)) 12)) D (pd_RF q) J n) = some (.inl none, (pd_st (eQ I0 (qem (qpu (sD Q (qd Q + 1)) 12) 26 0)) D (pd_RF q) J n)) := ev96 (by omega) (show qs Q < 128 by omega)
  have e96' : ∀ o a, mm_ev xs Ls pd_ck pd_ak pd_mj d 96 [.ref (43 : Nat), .int o, .int a] (pd_st (eQ I0 (Q)) D (pd_RF q) J n) = some (.inl none, (pd_st (eQ I0 (qem Q o a)) D (pd_RF q) J n)) := fun o a => ev96 (by omega) (by omega)
  refine pd_ev_of (Nat.le_of_ble_eq_true rfl) ?_
  rw [show pd_mj 112 = pd_m112 from rfl, show mm_pad (mm_in [.ref (43 : Nat), .int s, .int c]) pd_m112.nL = [some (.ref (43 : Nat)), some (.int s), some (.int c)] from rfl]
  simp only [p112_0, p112_1, p112_2, p112_5, p112_6, p112_8, p112_11, p112_12, p112_15, p112_16, p112_19, p112_20, p112_21, p112_22, p112_23, p112_26, p112_27, p112_28, p112_31, p112_32, p112_34, p112_37, p112_38, p112_40, p112_41, p112_44, p112_45, p112_46, p112_47, p112_48, p112_51, p112_52, p112_54, p112_57, p112_58, p112_60, p112_63, p112_64, p112_65, p112_66, p112_69, p112_71, p112_74, p112_75, p112_78, p112_81, p112_82, p112_83, p112_84, p112_86, p112_89, p112_90, p112_92, p112_95, p112_96, p112_97, p112_98, p112_99, p112_102, p112_103, p112_104, p112_105, p112_107, p112_110, p112_111, p112_112, p112_114, p112_117, p112_119, p112_122, p112_124, p112_127, p112_128, p112_129, p112_130, p112_131, p112_134, p112_136, p112_139, p112_141, p112_144, p112_145, p112_148, p112_150, p112_153, p112_155, p112_158, p112_160, p112_161, p112_163, p112_164, p112_167, p112_168, gf7_13 sh43, gf7_15 sh43, mm_e0, pf7_15 sh43, qi1 sh43, qi2 sh43, mm_lA, mm_lI, mm_lD, mm_lJ, mm_ld0, mm_lds, pd_Kgo, pd_Kend, pd_Kno, pd_Kite, mm_i, mm_ii, mm_r, mm_1, mm_icmp, cond_true, cond_false, mm_o2, mm_c2, wt0, wt1, wt2, wt3, wt4, va_rfs, pd_bkv, pd_bkn, pd_bkif, pd_st1, Nat.reduceAdd, Nat.reduceLeDiff, Bool.or_false, Bool.or_self, eQ_d, wQ_d, eQ_g, e105, e103, e103', e96, e96']
  unfold qsi
  by_cases s4 : s = 4
  · by_cases k1 : c = 123
    · by_cases k2 : qd Q = 5
      · simp [s4, k1, k2]
      · simp [s4, k1, k2]
    · simp [s4, k1]
  · by_cases s5 : s = 5
    · by_cases k1 : c = 91
      · simp [s5, k1]
      · simp [s5, k1]
    · by_cases s6 : s = 6
      · by_cases k1 : c = 91
        · simp [s6, k1]
        · simp [s6, k1]
      · by_cases s7 : s = 7
        · by_cases k1 : c = 61
          · simp [s7, k1]
          · simp [s7, k1]
        · by_cases k1 : c < 48
          · simp [s4, s5, s6, s7, k1]
          · by_cases s8 : s = 8
            · by_cases k2 : c ≤ 49
              · by_cases g1 : qg Q = 87
                · simp [s8, k1, k2, g1]
                · by_cases g2 : qg Q = 83
                  · simp [s8, k1, k2, g2]
                  · simp [s8, k1, k2, g1, g2]
              · simp [s8, k1, k2]
            · by_cases k2 : c ≤ 51
              · by_cases g1 : qg Q = 87
                · simp [s4, s5, s6, s7, s8, k1, k2, g1]
                · by_cases g2 : qg Q = 83
                  · simp [s4, s5, s6, s7, s8, k1, k2, g2]
                  · simp [s4, s5, s6, s7, s8, k1, k2, g1, g2]
              · simp [s4, s5, s6, s7, s8, k1, k2]
/-- binary -/
theorem ev107 {c : Int32} (hd : 3 ≤ d) (h1 : rk c = 1 → okR 2 (qh Q) Q) (h2 : rk c ≠ 1 → okR (rk c) (qh Q) Q) (hh : ∀ r, qh (rdc r Q) < 64) : mm_ev xs Ls pd_ck pd_ak pd_mj d 107 [.ref (43 : Nat), .int c] (pd_st (eQ I0 (Q)) D (pd_RF q) J n) = some (.inl (some (.int (qbi c Q).1)), (pd_st (eQ I0 ((qbi c Q).2)) D (pd_RF q) J n)) := by
  obtain ⟨d, rfl⟩ : ∃ e, d = e + 1 := ⟨d - 1, by omega⟩
  refine pd_ev_of (Nat.le_of_ble_eq_true rfl) ?_
  rw [show pd_mj 107 = pd_m107 from rfl, show mm_pad (mm_in [.ref (43 : Nat), .int c]) pd_m107.nL = [some (.ref (43 : Nat)), some (.int c), none] from rfl]
  unfold qbi
  by_cases k : rk c = 1
  · have e1 : mm_ev xs Ls pd_ck pd_ak pd_mj d 108 [.ref (43 : Nat), .int 2] (pd_st (eQ I0 (Q)) D (pd_RF q) J n) = some (.inl none, (pd_st (eQ I0 (rdc 2 Q)) D (pd_RF q) J n)) := ev108 (by omega) (h1 k)
    simp only [p107_0, p107_1, p107_2, p107_5, p107_6, p107_7, p107_8, p107_9, p107_12, p107_13, p107_16, p107_17, p107_20, p107_21, p107_22, p107_25, p107_26, p107_27, p107_30, p107_33, p107_34, p107_37, p107_38, p107_39, p107_40, p107_41, p107_44, p107_45, mm_e0, qi0 sh43, qi1 sh43, so3_2i, mm_lA, mm_lI, mm_lD, mm_lJ, mm_ld0, mm_lds, pd_Kgo, pd_Kend, pd_Kno, pd_Kite, mm_i, mm_ii, mm_r, mm_1, mm_icmp, cond_true, cond_false, mm_o2, mm_c2, wt0, wt1, wt2, wt3, wt4, va_rfs, pd_bkv, pd_bkn, pd_bkif, pd_st1, Nat.reduceAdd, Nat.reduceLeDiff, Bool.or_false, Bool.or_self, ev106 (d := d) (by omega), k, if_true, e1, ev99 (d := d) (Q := rdc 2 Q) (by omega) (by have := hh 2; omega), ev103 (d := d) (Q := rdc 2 Q) (by omega) (hh 2)]
    by_cases k2 : rk (qab (rdc 2 Q)) = 1
    · simp [k2]
    · simp [k2]
  · have e1 : mm_ev xs Ls pd_ck pd_ak pd_mj d 108 [.ref (43 : Nat), .int (rk c)] (pd_st (eQ I0 (Q)) D (pd_RF q) J n) = some (.inl none, (pd_st (eQ I0 (rdc (rk c) Q)) D (pd_RF q) J n)) := ev108 (by omega) (h2 k)
    simp only [p107_0, p107_1, p107_2, p107_5, p107_6, p107_7, p107_8, p107_9, p107_12, p107_13, p107_16, p107_17, p107_20, p107_21, p107_22, p107_25, p107_26, p107_27, p107_30, p107_33, p107_34, p107_37, p107_38, p107_39, p107_40, p107_41, p107_44, p107_45, mm_e0, qi0 sh43, qi1 sh43, so3_2i, mm_lA, mm_lI, mm_lD, mm_lJ, mm_ld0, mm_lds, pd_Kgo, pd_Kend, pd_Kno, pd_Kite, mm_i, mm_ii, mm_r, mm_1, mm_icmp, cond_true, cond_false, mm_o2, mm_c2, wt0, wt1, wt2, wt3, wt4, va_rfs, pd_bkv, pd_bkn, pd_bkif, pd_st1, Nat.reduceAdd, Nat.reduceLeDiff, Bool.or_false, Bool.or_self, ev106 (d := d) (by omega), if_neg k, e1, ev103 (d := d) (Q := rdc (rk c) Q) (by omega) (hh _)]
/-! ended -/
theorem en_semi (hd : 2 ≤ d) (hh : qh Q ≤ 64) : mm_ev xs Ls pd_ck pd_ak pd_mj d 111 [.ref (43 : Nat), .int 59] (pd_st (eQ I0 (Q)) D (pd_RF q) J n) = some (.inl (some (.int 0)), (pd_st (eQ I0 (Q)) D (pd_RF q) J n)) := by
  obtain ⟨d, rfl⟩ : ∃ e, d = e + 1 := ⟨d - 1, by omega⟩
  refine pd_ev_of (Nat.le_of_ble_eq_true rfl) ?_
  rw [show pd_mj 111 = pd_m111 from rfl, show mm_pad (mm_in [.ref (43 : Nat), .int 59]) pd_m111.nL = [some (.ref (43 : Nat)), some (.int 59), none, none, none] from rfl]
  simp only [p111_0, p111_1, p111_4, p111_5, p111_6, p111_8, p111_11, p111_12, p111_13, p111_14, p111_17, p111_18, p111_21, p111_24, p111_26, p111_29, p111_30, p111_31, p111_32, p111_34, p111_37, p111_38, p111_40, p111_43, p111_44, p111_46, p111_47, p111_50, p111_51, p111_54, p111_57, p111_58, p111_61, p111_62, p111_65, p111_66, p111_67, p111_68, p111_69, p111_70, p111_73, p111_74, p111_75, p111_78, p111_79, p111_82, p111_83, p111_84, p111_86, p111_87, p111_88, p111_89, p111_90, p111_92, p111_95, p111_96, p111_98, p111_101, p111_102, p111_104, p111_107, p111_108, p111_110, p111_113, p111_114, p111_115, p111_116, p111_117, p111_120, p111_121, p111_122, p111_125, p111_126, p111_127, p111_130, p111_131, p111_132, p111_135, p111_136, p111_139, p111_140, p111_143, p111_144, p111_145, p111_146, p111_148, p111_151, p111_152, p111_154, p111_155, p111_158, p111_159, p111_162, p111_165, p111_166, p111_167, p111_168, p111_171, p111_172, p111_175, p111_176, p111_178, p111_181, p111_182, p111_184, p111_185, p111_188, p111_189, p111_192, p111_195, p111_198, p111_200, p111_201, p111_202, p111_204, p111_207, p111_210, p111_213, p111_214, p111_217, p111_220, p111_222, p111_223, p111_224, p111_227, p111_228, p111_229, gf7_1 sh43, gf7_10 sh43, gf7_12 sh43, gf7_15 sh43, gf7_2 sh43, gf7_3 sh43, gf7_5 sh43, gf7_6 sh43, mm_e0, pd_stI, pf7_10 sh43, pf7_15 sh43, qi0 sh43, qi2 sh43, so5_2i, so5_3i, so5_4i, mm_lA, mm_lI, mm_lD, mm_lJ, mm_ld0, mm_lds, pd_Kgo, pd_Kend, pd_Kno, pd_Kite, mm_i, mm_ii, mm_r, mm_1, mm_icmp, cond_true, cond_false, mm_o2, mm_c2, wt0, wt1, wt2, wt3, wt4, va_rfs, pd_bkv, pd_bkn, pd_bkif, pd_st1, Nat.reduceAdd, Nat.reduceLeDiff, Bool.or_false, Bool.or_self, ev99 (d := d) (Q := Q) (by omega) hh, if_true]
theorem en_zero (hd : 2 ≤ d) (hh : qh Q ≤ 64) : mm_ev xs Ls pd_ck pd_ak pd_mj d 111 [.ref (43 : Nat), .int 0] (pd_st (eQ I0 (Q)) D (pd_RF q) J n) = some (.inl (some (.int (if qh Q = 0 then 10 else -1))), (pd_st (eQ I0 (Q)) D (pd_RF q) J n)) := by
  obtain ⟨d, rfl⟩ : ∃ e, d = e + 1 := ⟨d - 1, by omega⟩
  refine pd_ev_of (Nat.le_of_ble_eq_true rfl) ?_
  rw [show pd_mj 111 = pd_m111 from rfl, show mm_pad (mm_in [.ref (43 : Nat), .int 0]) pd_m111.nL = [some (.ref (43 : Nat)), some (.int 0), none, none, none] from rfl]
  have e1 : ((0 : Int32) = 59) = False := eq_false (by decide)
  by_cases k : qh Q = 0
  · simp only [p111_0, p111_1, p111_4, p111_5, p111_6, p111_8, p111_11, p111_12, p111_13, p111_14, p111_17, p111_18, p111_21, p111_24, p111_26, p111_29, p111_30, p111_31, p111_32, p111_34, p111_37, p111_38, p111_40, p111_43, p111_44, p111_46, p111_47, p111_50, p111_51, p111_54, p111_57, p111_58, p111_61, p111_62, p111_65, p111_66, p111_67, p111_68, p111_69, p111_70, p111_73, p111_74, p111_75, p111_78, p111_79, p111_82, p111_83, p111_84, p111_86, p111_87, p111_88, p111_89, p111_90, p111_92, p111_95, p111_96, p111_98, p111_101, p111_102, p111_104, p111_107, p111_108, p111_110, p111_113, p111_114, p111_115, p111_116, p111_117, p111_120, p111_121, p111_122, p111_125, p111_126, p111_127, p111_130, p111_131, p111_132, p111_135, p111_136, p111_139, p111_140, p111_143, p111_144, p111_145, p111_146, p111_148, p111_151, p111_152, p111_154, p111_155, p111_158, p111_159, p111_162, p111_165, p111_166, p111_167, p111_168, p111_171, p111_172, p111_175, p111_176, p111_178, p111_181, p111_182, p111_184, p111_185, p111_188, p111_189, p111_192, p111_195, p111_198, p111_200, p111_201, p111_202, p111_204, p111_207, p111_210, p111_213, p111_214, p111_217, p111_220, p111_222, p111_223, p111_224, p111_227, p111_228, p111_229, gf7_1 sh43, gf7_10 sh43, gf7_12 sh43, gf7_15 sh43, gf7_2 sh43, gf7_3 sh43, gf7_5 sh43, gf7_6 sh43, mm_e0, pd_stI, pf7_10 sh43, pf7_15 sh43, qi0 sh43, qi2 sh43, so5_2i, so5_3i, so5_4i, mm_lA, mm_lI, mm_lD, mm_lJ, mm_ld0, mm_lds, pd_Kgo, pd_Kend, pd_Kno, pd_Kite, mm_i, mm_ii, mm_r, mm_1, mm_icmp, cond_true, cond_false, mm_o2, mm_c2, wt0, wt1, wt2, wt3, wt4, va_rfs, pd_bkv, pd_bkn, pd_bkif, pd_st1, Nat.reduceAdd, Nat.reduceLeDiff, Bool.or_false, Bool.or_self, ev99 (d := d) (Q := Q) (by omega) hh, if_true, e1, if_false, eQ_h, pd_eq0 (x := qh Q) (by omega), if_pos k]
  · simp only [p111_0, p111_1, p111_4, p111_5, p111_6, p111_8, p111_11, p111_12, p111_13, p111_14, p111_17, p111_18, p111_21, p111_24, p111_26, p111_29, p111_30, p111_31, p111_32, p111_34, p111_37, p111_38, p111_40, p111_43, p111_44, p111_46, p111_47, p111_50, p111_51, p111_54, p111_57, p111_58, p111_61, p111_62, p111_65, p111_66, p111_67, p111_68, p111_69, p111_70, p111_73, p111_74, p111_75, p111_78, p111_79, p111_82, p111_83, p111_84, p111_86, p111_87, p111_88, p111_89, p111_90, p111_92, p111_95, p111_96, p111_98, p111_101, p111_102, p111_104, p111_107, p111_108, p111_110, p111_113, p111_114, p111_115, p111_116, p111_117, p111_120, p111_121, p111_122, p111_125, p111_126, p111_127, p111_130, p111_131, p111_132, p111_135, p111_136, p111_139, p111_140, p111_143, p111_144, p111_145, p111_146, p111_148, p111_151, p111_152, p111_154, p111_155, p111_158, p111_159, p111_162, p111_165, p111_166, p111_167, p111_168, p111_171, p111_172, p111_175, p111_176, p111_178, p111_181, p111_182, p111_184, p111_185, p111_188, p111_189, p111_192, p111_195, p111_198, p111_200, p111_201, p111_202, p111_204, p111_207, p111_210, p111_213, p111_214, p111_217, p111_220, p111_222, p111_223, p111_224, p111_227, p111_228, p111_229, gf7_1 sh43, gf7_10 sh43, gf7_12 sh43, gf7_15 sh43, gf7_2 sh43, gf7_3 sh43, gf7_5 sh43, gf7_6 sh43, mm_e0, pd_stI, pf7_10 sh43, pf7_15 sh43, qi0 sh43, qi2 sh43, so5_2i, so5_3i, so5_4i, mm_lA, mm_lI, mm_lD, mm_lJ, mm_ld0, mm_lds, pd_Kgo, pd_Kend, pd_Kno, pd_Kite, mm_i, mm_ii, mm_r, mm_1, mm_icmp, cond_true, cond_false, mm_o2, mm_c2, wt0, wt1, wt2, wt3, wt4, va_rfs, pd_bkv, pd_bkn, pd_bkif, pd_st1, Nat.reduceAdd, Nat.reduceLeDiff, Bool.or_false, Bool.or_self, ev99 (d := d) (Q := Q) (by omega) hh, if_true, e1, if_false, eQ_h, pd_eq0 (x := qh Q) (by omega), if_neg k]
theorem en_bar {f : Nat} (hd : 2 ≤ d) (hb : qs Q + qh Q ≤ 63) (hm : qab Q = 12) (h1 : 1 ≤ qh Q) (hf : qf Q (qh Q - 1) = Int32.ofNat f) (hf1 : f < 128) : mm_ev xs Ls pd_ck pd_ak pd_mj d 111 [.ref (43 : Nat), .int 124] (pd_st (eQ I0 (Q)) D (pd_RF q) J n) = some (.inl (some (.int 0)), (pd_st (eQ I0 (sO (sA (qem Q 30 0) (512 + f) (Int32.ofNat (qs Q + 1))) (qh Q - 1) 13)) D (pd_RF q) J n)) := by
  obtain ⟨d, rfl⟩ : ∃ e, d = e + 1 := ⟨d - 1, by omega⟩
  refine pd_ev_of (Nat.le_of_ble_eq_true rfl) ?_
  rw [show pd_mj 111 = pd_m111 from rfl, show mm_pad (mm_in [.ref (43 : Nat), .int 124]) pd_m111.nL = [some (.ref (43 : Nat)), some (.int 124), none, none, none] from rfl]
  have e1 : ((124 : Int32) = 59) = False := eq_false (by decide)
  have e2 : ((124 : Int32) = 0) = False := eq_false (by decide)
  have e3 : qh (qem Q 30 0) = qh Q := rfl
  have e4 : qf (qem Q 30 0) = qf Q := rfl
  have e5 : qs (qem Q 30 0) = qs Q + 1 := rfl
  simp only [p111_0, p111_1, p111_4, p111_5, p111_6, p111_8, p111_11, p111_12, p111_13, p111_14, p111_17, p111_18, p111_21, p111_24, p111_26, p111_29, p111_30, p111_31, p111_32, p111_34, p111_37, p111_38, p111_40, p111_43, p111_44, p111_46, p111_47, p111_50, p111_51, p111_54, p111_57, p111_58, p111_61, p111_62, p111_65, p111_66, p111_67, p111_68, p111_69, p111_70, p111_73, p111_75, p111_78, p111_79, p111_82, p111_83, p111_84, p111_86, p111_87, p111_88, p111_89, p111_90, p111_92, p111_95, p111_96, p111_98, p111_101, p111_102, p111_104, p111_107, p111_108, p111_110, p111_113, p111_114, p111_115, p111_116, p111_117, p111_120, p111_121, p111_122, p111_125, p111_126, p111_127, p111_130, p111_131, p111_132, p111_135, p111_136, p111_139, p111_140, p111_143, p111_144, p111_145, p111_146, p111_148, p111_151, p111_152, p111_154, p111_155, p111_158, p111_159, p111_162, p111_165, p111_166, p111_167, p111_168, p111_171, p111_172, p111_175, p111_176, p111_178, p111_181, p111_182, p111_184, p111_185, p111_188, p111_189, p111_192, p111_195, p111_198, p111_200, p111_201, p111_202, p111_204, p111_207, p111_210, p111_213, p111_214, p111_217, p111_220, p111_222, p111_223, p111_224, p111_227, p111_228, p111_229, gf7_1 sh43, gf7_10 sh43, gf7_12 sh43, gf7_15 sh43, gf7_2 sh43, gf7_3 sh43, gf7_5 sh43, gf7_6 sh43, mm_e0, pd_stI, pf7_10 sh43, pf7_15 sh43, qi0 sh43, qi2 sh43, so5_2i, so5_3i, so5_4i, mm_lA, mm_lI, mm_lD, mm_lJ, mm_ld0, mm_lds, pd_Kgo, pd_Kend, pd_Kno, pd_Kite, mm_i, mm_ii, mm_r, mm_1, mm_icmp, cond_true, cond_false, mm_o2, mm_c2, wt0, wt1, wt2, wt3, wt4, va_rfs, pd_bkv, pd_bkn, pd_bkif, pd_st1, Nat.reduceAdd, Nat.reduceLeDiff, Bool.or_false, Bool.or_self, ev99 (d := d) (Q := Q) (by omega) (by omega), if_true, e1, e2, if_false, hm, ev96 (d := d) (Q := Q) (by omega) (show qs Q < 128 by omega), rm_2, rm_5, rm_6, eQ_h, eQ_s, e3, e5, pd_sub1 (x := qh Q) h1, pd_il (a := 50) (t := 0) (mm := 64) rfl rfl (show qh Q - 1 < 64 by omega) (by omega), eQ_f, e4, hf, pd_512, pd_ic (a := 46) (mm := 640) rfl (show 512 + f < 640 by omega) (by omega), wQ_a]
  have e6 : qh (sA (qem Q 30 0) (512 + f) (Int32.ofNat (qs Q + 1))) = qh Q := rfl
  generalize sA (qem Q 30 0) (512 + f) (Int32.ofNat (qs Q + 1)) = X at *
  simp only [p111_0, p111_1, p111_4, p111_5, p111_6, p111_8, p111_11, p111_12, p111_13, p111_14, p111_17, p111_18, p111_21, p111_24, p111_26, p111_29, p111_30, p111_31, p111_32, p111_34, p111_37, p111_38, p111_40, p111_43, p111_44, p111_46, p111_47, p111_50, p111_51, p111_54, p111_57, p111_58, p111_61, p111_62, p111_65, p111_66, p111_67, p111_68, p111_69, p111_70, p111_73, p111_74, p111_75, p111_78, p111_79, p111_82, p111_83, p111_84, p111_86, p111_87, p111_88, p111_89, p111_90, p111_92, p111_95, p111_96, p111_98, p111_101, p111_102, p111_104, p111_107, p111_108, p111_110, p111_113, p111_114, p111_115, p111_116, p111_117, p111_120, p111_121, p111_122, p111_125, p111_126, p111_127, p111_130, p111_131, p111_132, p111_135, p111_136, p111_139, p111_140, p111_143, p111_144, p111_145, p111_146, p111_148, p111_151, p111_152, p111_154, p111_155, p111_158, p111_159, p111_162, p111_165, p111_166, p111_167, p111_168, p111_171, p111_172, p111_175, p111_176, p111_178, p111_181, p111_182, p111_184, p111_185, p111_188, p111_189, p111_192, p111_195, p111_198, p111_200, p111_201, p111_202, p111_204, p111_207, p111_210, p111_213, p111_214, p111_217, p111_220, p111_222, p111_223, p111_224, p111_227, p111_228, p111_229, gf7_1 sh43, gf7_10 sh43, gf7_12 sh43, gf7_15 sh43, gf7_2 sh43, gf7_3 sh43, gf7_5 sh43, gf7_6 sh43, mm_e0, pd_stI, pf7_10 sh43, pf7_15 sh43, qi0 sh43, qi2 sh43, so5_2i, so5_3i, so5_4i, mm_lA, mm_lI, mm_lD, mm_lJ, mm_ld0, mm_lds, pd_Kgo, pd_Kend, pd_Kno, pd_Kite, mm_i, mm_ii, mm_r, mm_1, mm_icmp, cond_true, cond_false, mm_o2, mm_c2, wt0, wt1, wt2, wt3, wt4, va_rfs, pd_bkv, pd_bkn, pd_bkif, pd_st1, Nat.reduceAdd, Nat.reduceLeDiff, Bool.or_false, Bool.or_self, rm_5, eQ_h, e6, pd_sub1 (x := qh Q) h1, pd_ic (a := 49) (mm := 64) rfl (show qh Q - 1 < 64 by omega) (by omega), wQ_o]
theorem en_both {f : Nat} (hd : 2 ≤ d) (hb : qs Q + qh Q ≤ 63) (hm : qab Q = 13) (h1 : 1 ≤ qh Q) (hf : qf Q (qh Q - 1) = Int32.ofNat f) (hf1 : f < 128) : mm_ev xs Ls pd_ck pd_ak pd_mj d 111 [.ref (43 : Nat), .int 125] (pd_st (eQ I0 (Q)) D (pd_RF q) J n) = some (.inl (some (.int 3)), (pd_st (eQ I0 (sX (qem (sD (sH Q (qh Q - 1)) (qd Q - 1)) 30 0) (512 + f) (Int32.ofNat (qs Q + 1)))) D (pd_RF q) J n)) := by
  obtain ⟨d, rfl⟩ : ∃ e, d = e + 1 := ⟨d - 1, by omega⟩
  refine pd_ev_of (Nat.le_of_ble_eq_true rfl) ?_
  rw [show pd_mj 111 = pd_m111 from rfl, show mm_pad (mm_in [.ref (43 : Nat), .int 125]) pd_m111.nL = [some (.ref (43 : Nat)), some (.int 125), none, none, none] from rfl]
  have e1 : ((125 : Int32) = 59) = False := eq_false (by decide)
  have e2 : ((125 : Int32) = 0) = False := eq_false (by decide)
  have e6 : ((125 : Int32) = 124) = False := eq_false (by decide)
  have e7 : ((13 : Int32) = 10) = False := eq_false (by decide)
  have e8 : ((13 : Int32) = 11) = False := eq_false (by decide)
  have e5 : qs (qem (sD (sH Q (qh Q - 1)) (qd Q - 1)) 30 0) = qs Q + 1 := rfl
  simp only [p111_0, p111_1, p111_4, p111_5, p111_6, p111_8, p111_11, p111_12, p111_13, p111_14, p111_17, p111_18, p111_21, p111_24, p111_26, p111_29, p111_30, p111_31, p111_32, p111_34, p111_37, p111_38, p111_40, p111_43, p111_44, p111_46, p111_47, p111_50, p111_51, p111_54, p111_57, p111_58, p111_61, p111_62, p111_65, p111_66, p111_67, p111_68, p111_69, p111_70, p111_73, p111_74, p111_75, p111_78, p111_79, p111_82, p111_83, p111_84, p111_86, p111_87, p111_88, p111_89, p111_90, p111_92, p111_95, p111_96, p111_98, p111_101, p111_102, p111_104, p111_107, p111_108, p111_110, p111_113, p111_114, p111_115, p111_116, p111_117, p111_120, p111_121, p111_122, p111_125, p111_126, p111_127, p111_130, p111_131, p111_132, p111_135, p111_136, p111_139, p111_140, p111_143, p111_144, p111_145, p111_146, p111_148, p111_151, p111_152, p111_154, p111_155, p111_158, p111_159, p111_162, p111_165, p111_166, p111_167, p111_168, p111_171, p111_172, p111_175, p111_176, p111_178, p111_181, p111_182, p111_184, p111_185, p111_188, p111_189, p111_192, p111_195, p111_198, p111_200, p111_201, p111_202, p111_204, p111_207, p111_210, p111_213, p111_214, p111_217, p111_220, p111_222, p111_223, p111_224, p111_227, p111_228, p111_229, gf7_1 sh43, gf7_10 sh43, gf7_12 sh43, gf7_15 sh43, gf7_2 sh43, gf7_3 sh43, gf7_5 sh43, gf7_6 sh43, mm_e0, pd_stI, pf7_10 sh43, pf7_15 sh43, qi0 sh43, qi2 sh43, so5_2i, so5_3i, so5_4i, mm_lA, mm_lI, mm_lD, mm_lJ, mm_ld0, mm_lds, pd_Kgo, pd_Kend, pd_Kno, pd_Kite, mm_i, mm_ii, mm_r, mm_1, mm_icmp, cond_true, cond_false, mm_o2, mm_c2, wt0, wt1, wt2, wt3, wt4, va_rfs, pd_bkv, pd_bkn, pd_bkif, pd_st1, Nat.reduceAdd, Nat.reduceLeDiff, Bool.or_false, Bool.or_self, ev99 (d := d) (Q := Q) (by omega) (by omega), if_true, e1, e2, e6, e7, e8, if_false, hm, rm_3, rm_6, eQ_h, eQ_d, eQ_s, qs_hh, qs_th, qs_sh, qs_dh, qs_gh, qs_nh, qs_mh, qs_oh, qs_fh, qs_rh, qs_ch, qs_ah, qs_xh, qs_ht, qs_tt, qs_st, qs_dt, qs_gt, qs_nt, qs_mt, qs_ot, qs_ft, qs_rt, qs_ct, qs_at, qs_xt, qs_hs, qs_ts, qs_ss, qs_ds, qs_gs, qs_ns, qs_ms, qs_os, qs_fs, qs_rs, qs_cs, qs_as, qs_xs, qs_hd, qs_td, qs_sd, qs_dd, qs_gd, qs_nd, qs_md, qs_od, qs_fd, qs_rd, qs_cd, qs_ad, qs_xd, qs_hg, qs_tg, qs_sg, qs_dg, qs_gg, qs_ng, qs_mg, qs_og, qs_fg, qs_rg, qs_cg, qs_ag, qs_xg, qs_hn, qs_tn, qs_sn, qs_dn, qs_gn, qs_nn, qs_mn, qs_on, qs_fn, qs_rn, qs_cn, qs_an, qs_xn, qs_hm, qs_tm, qs_sm, qs_dm, qs_gm, qs_nm, qs_mm, qs_om, qs_fm, qs_rm, qs_cm, qs_am, qs_xm, qs_ho, qs_to, qs_so, qs_do, qs_go, qs_no, qs_mo, qs_oo, qs_fo, qs_ro, qs_co, qs_ao, qs_xo, qs_hf, qs_tf, qs_sf, qs_df, qs_gf, qs_nf, qs_mf, qs_of, qs_ff, qs_rf, qs_cf, qs_af, qs_xf, qs_hr, qs_tr, qs_sr, qs_dr, qs_gr, qs_nr, qs_mr, qs_or, qs_fr, qs_rr, qs_cr, qs_ar, qs_xr, qs_hc, qs_tc, qs_sc, qs_dc, qs_gc, qs_nc, qs_mc, qs_oc, qs_fc, qs_rc, qs_cc, qs_ac, qs_xc, qs_ha, qs_ta, qs_sa, qs_da, qs_ga, qs_na, qs_ma, qs_oa, qs_fa, qs_ra, qs_ca, qs_aa, qs_xa, qs_hx, qs_tx, qs_sx, qs_dx, qs_gx, qs_nx, qs_mx, qs_ox, qs_fx, qs_rx, qs_cx, qs_ax, qs_xx, e5, pd_sub1 (x := qh Q) h1, wQ_h, wQ_d, ev96 (d := d) (Q := sD (sH Q (qh Q - 1)) (qd Q - 1)) (by omega) (show qs Q < 128 by omega), pd_il (a := 50) (t := 0) (mm := 64) rfl rfl (show qh Q - 1 < 64 by omega) (by omega), eQ_f, hf, pd_512, pd_ic (a := 47) (mm := 640) rfl (show 512 + f < 640 by omega) (by omega), wQ_x]
/-- the search for the test -/
theorem lp111 {c mk fI : Int32} {Q : pq} {t : Nat} (ht : t < 128) (h28 : qc Q (512 + t) = 28) : ∀ (g f : Nat), f + g = t → (∀ j, f ≤ j → j < t → qc Q (512 + j) ≠ 28) → pd_G xs Ls d pd_m111 (191, [some (.ref (43 : Nat)), some (.int c), some (.int mk), some (.int fI), some (.int (Int32.ofNat f))], [], (pd_st (eQ I0 (Q)) D (pd_RF q) J n)) (.inl (some (.int 3)), (pd_st (eQ I0 (sA Q (512 + t) (Int32.ofNat (qs Q)))) D (pd_RF q) J n)) := by
  intro g
  induction g with
  | zero =>
    intro f hf hj
    have hf' : f = t := by omega
    subst hf'
    rw [p111_191]
    simp only [p111_0, p111_1, p111_4, p111_5, p111_6, p111_8, p111_11, p111_12, p111_13, p111_14, p111_17, p111_18, p111_21, p111_24, p111_26, p111_29, p111_30, p111_31, p111_32, p111_34, p111_37, p111_38, p111_40, p111_43, p111_44, p111_46, p111_47, p111_50, p111_51, p111_54, p111_57, p111_58, p111_61, p111_62, p111_65, p111_66, p111_67, p111_68, p111_69, p111_70, p111_73, p111_74, p111_75, p111_78, p111_79, p111_82, p111_83, p111_84, p111_86, p111_87, p111_88, p111_89, p111_90, p111_92, p111_95, p111_96, p111_98, p111_101, p111_102, p111_104, p111_107, p111_108, p111_110, p111_113, p111_114, p111_115, p111_116, p111_117, p111_120, p111_121, p111_122, p111_125, p111_126, p111_127, p111_130, p111_131, p111_132, p111_135, p111_136, p111_139, p111_140, p111_143, p111_144, p111_145, p111_146, p111_148, p111_151, p111_152, p111_154, p111_155, p111_158, p111_159, p111_162, p111_165, p111_166, p111_167, p111_168, p111_171, p111_172, p111_175, p111_176, p111_178, p111_181, p111_182, p111_184, p111_185, p111_188, p111_189, p111_192, p111_195, p111_198, p111_200, p111_201, p111_202, p111_204, p111_207, p111_210, p111_213, p111_214, p111_217, p111_220, p111_222, p111_223, p111_224, p111_227, p111_228, p111_229, gf7_1 sh43, gf7_10 sh43, gf7_12 sh43, gf7_15 sh43, gf7_2 sh43, gf7_3 sh43, gf7_5 sh43, gf7_6 sh43, mm_e0, pd_stI, pf7_10 sh43, pf7_15 sh43, qi0 sh43, qi2 sh43, so5_2i, so5_3i, so5_4i, mm_lA, mm_lI, mm_lD, mm_lJ, mm_ld0, mm_lds, pd_Kgo, pd_Kend, pd_Kno, pd_Kite, mm_i, mm_ii, mm_r, mm_1, mm_icmp, cond_true, cond_false, mm_o2, mm_c2, wt0, wt1, wt2, wt3, wt4, va_rfs, pd_bkv, pd_bkn, pd_bkif, pd_st1, Nat.reduceAdd, Nat.reduceLeDiff, Bool.or_false, Bool.or_self, rm_1, rm_2, pd_512, pd_il (a := 45) (t := 0) (mm := 640) rfl rfl (show 512 + f < 640 by omega) (by omega), eQ_c, h28, if_true, eQ_s, pd_ic (a := 46) (mm := 640) rfl (show 512 + f < 640 by omega) (by omega), wQ_a]
  | succ g ih =>
    intro f hf hj
    have h9 := hj f (Nat.le_refl _) (by omega)
    rw [p111_191]
    simp only [p111_0, p111_1, p111_4, p111_5, p111_6, p111_8, p111_11, p111_12, p111_13, p111_14, p111_17, p111_18, p111_21, p111_24, p111_26, p111_29, p111_30, p111_31, p111_32, p111_34, p111_37, p111_38, p111_40, p111_43, p111_44, p111_46, p111_47, p111_50, p111_51, p111_54, p111_57, p111_58, p111_61, p111_62, p111_65, p111_66, p111_67, p111_68, p111_69, p111_70, p111_73, p111_74, p111_75, p111_78, p111_79, p111_82, p111_83, p111_84, p111_86, p111_87, p111_88, p111_89, p111_90, p111_92, p111_95, p111_96, p111_98, p111_101, p111_102, p111_104, p111_107, p111_108, p111_110, p111_113, p111_114, p111_115, p111_116, p111_117, p111_120, p111_121, p111_122, p111_125, p111_126, p111_127, p111_130, p111_131, p111_132, p111_135, p111_136, p111_139, p111_140, p111_143, p111_144, p111_145, p111_146, p111_148, p111_151, p111_152, p111_154, p111_155, p111_158, p111_159, p111_162, p111_165, p111_166, p111_167, p111_168, p111_171, p111_172, p111_175, p111_176, p111_178, p111_181, p111_182, p111_184, p111_185, p111_188, p111_189, p111_192, p111_195, p111_198, p111_200, p111_201, p111_202, p111_204, p111_207, p111_210, p111_213, p111_214, p111_217, p111_220, p111_222, p111_223, p111_224, p111_227, p111_228, p111_229, gf7_1 sh43, gf7_10 sh43, gf7_12 sh43, gf7_15 sh43, gf7_2 sh43, gf7_3 sh43, gf7_5 sh43, gf7_6 sh43, mm_e0, pd_stI, pf7_10 sh43, pf7_15 sh43, qi0 sh43, qi2 sh43, so5_2i, so5_3i, so5_4i, mm_lA, mm_lI, mm_lD, mm_lJ, mm_ld0, mm_lds, pd_Kgo, pd_Kend, pd_Kno, pd_Kite, mm_i, mm_ii, mm_r, mm_1, mm_icmp, cond_true, cond_false, mm_o2, mm_c2, wt0, wt1, wt2, wt3, wt4, va_rfs, pd_bkv, pd_bkn, pd_bkif, pd_st1, Nat.reduceAdd, Nat.reduceLeDiff, Bool.or_false, Bool.or_self, rm_1, rm_2, pd_512, pd_il (a := 45) (t := 0) (mm := 640) rfl rfl (show 512 + f < 640 by omega) (by omega), eQ_c, if_neg h9, pd_suc]
    exact ih (f + 1) (by omega) (fun j h1 h2 => hj j (by omega) h2)
theorem en_if {f t : Nat} (hd : 2 ≤ d) (hb : qs Q + qh Q ≤ 63) (hm : qab Q = 10) (h1 : 1 ≤ qh Q) (hf : qf Q (qh Q - 1) = Int32.ofNat f) (hf1 : f ≤ t) (ht : t < 128) (h28 : qc Q (512 + t) = 28) (hj : ∀ j, f ≤ j → j < t → qc Q (512 + j) ≠ 28) : mm_ev xs Ls pd_ck pd_ak pd_mj d 111 [.ref (43 : Nat), .int 125] (pd_st (eQ I0 (Q)) D (pd_RF q) J n) = some (.inl (some (.int 3)), (pd_st (eQ I0 (sA (sD (sH Q (qh Q - 1)) (qd Q - 1)) (512 + t) (Int32.ofNat (qs Q)))) D (pd_RF q) J n)) := by
  obtain ⟨d, rfl⟩ : ∃ e, d = e + 1 := ⟨d - 1, by omega⟩
  refine pd_ev_of (Nat.le_of_ble_eq_true rfl) ?_
  rw [show pd_mj 111 = pd_m111 from rfl, show mm_pad (mm_in [.ref (43 : Nat), .int 125]) pd_m111.nL = [some (.ref (43 : Nat)), some (.int 125), none, none, none] from rfl]
  have e1 : ((125 : Int32) = 59) = False := eq_false (by decide)
  have e2 : ((125 : Int32) = 0) = False := eq_false (by decide)
  have e6 : ((125 : Int32) = 124) = False := eq_false (by decide)
  have e7 : ((10 : Int32) = 13) = False := eq_false (by decide)
  have e8 : ((10 : Int32) = 11) = False := eq_false (by decide)
  simp only [p111_0, p111_1, p111_4, p111_5, p111_6, p111_8, p111_11, p111_12, p111_13, p111_14, p111_17, p111_18, p111_21, p111_24, p111_26, p111_29, p111_30, p111_31, p111_32, p111_34, p111_37, p111_38, p111_40, p111_43, p111_44, p111_46, p111_47, p111_50, p111_51, p111_54, p111_57, p111_58, p111_61, p111_62, p111_65, p111_66, p111_67, p111_68, p111_69, p111_70, p111_73, p111_74, p111_75, p111_78, p111_79, p111_82, p111_83, p111_84, p111_86, p111_87, p111_88, p111_89, p111_90, p111_92, p111_95, p111_96, p111_98, p111_101, p111_102, p111_104, p111_107, p111_108, p111_110, p111_113, p111_114, p111_115, p111_116, p111_117, p111_120, p111_121, p111_122, p111_125, p111_126, p111_127, p111_130, p111_131, p111_132, p111_135, p111_136, p111_139, p111_140, p111_143, p111_144, p111_145, p111_146, p111_148, p111_151, p111_152, p111_154, p111_155, p111_158, p111_159, p111_162, p111_165, p111_166, p111_167, p111_168, p111_171, p111_172, p111_175, p111_176, p111_178, p111_181, p111_182, p111_184, p111_185, p111_188, p111_189, p111_192, p111_195, p111_198, p111_200, p111_201, p111_202, p111_204, p111_207, p111_210, p111_213, p111_214, p111_217, p111_220, p111_222, p111_223, p111_224, p111_227, p111_228, p111_229, gf7_1 sh43, gf7_10 sh43, gf7_12 sh43, gf7_15 sh43, gf7_2 sh43, gf7_3 sh43, gf7_5 sh43, gf7_6 sh43, mm_e0, pd_stI, pf7_10 sh43, pf7_15 sh43, qi0 sh43, qi2 sh43, so5_2i, so5_3i, so5_4i, mm_lA, mm_lI, mm_lD, mm_lJ, mm_ld0, mm_lds, pd_Kgo, pd_Kend, pd_Kno, pd_Kite, mm_i, mm_ii, mm_r, mm_1, mm_icmp, cond_true, cond_false, mm_o2, mm_c2, wt0, wt1, wt2, wt3, wt4, va_rfs, pd_bkv, pd_bkn, pd_bkif, pd_st1, Nat.reduceAdd, Nat.reduceLeDiff, Bool.or_false, Bool.or_self, ev99 (d := d) (Q := Q) (by omega) (by omega), if_true, e1, e2, e6, e7, e8, if_false, hm, rm_3, rm_6, eQ_h, eQ_d, eQ_s, qs_hh, qs_th, qs_sh, qs_dh, qs_gh, qs_nh, qs_mh, qs_oh, qs_fh, qs_rh, qs_ch, qs_ah, qs_xh, qs_ht, qs_tt, qs_st, qs_dt, qs_gt, qs_nt, qs_mt, qs_ot, qs_ft, qs_rt, qs_ct, qs_at, qs_xt, qs_hs, qs_ts, qs_ss, qs_ds, qs_gs, qs_ns, qs_ms, qs_os, qs_fs, qs_rs, qs_cs, qs_as, qs_xs, qs_hd, qs_td, qs_sd, qs_dd, qs_gd, qs_nd, qs_md, qs_od, qs_fd, qs_rd, qs_cd, qs_ad, qs_xd, qs_hg, qs_tg, qs_sg, qs_dg, qs_gg, qs_ng, qs_mg, qs_og, qs_fg, qs_rg, qs_cg, qs_ag, qs_xg, qs_hn, qs_tn, qs_sn, qs_dn, qs_gn, qs_nn, qs_mn, qs_on, qs_fn, qs_rn, qs_cn, qs_an, qs_xn, qs_hm, qs_tm, qs_sm, qs_dm, qs_gm, qs_nm, qs_mm, qs_om, qs_fm, qs_rm, qs_cm, qs_am, qs_xm, qs_ho, qs_to, qs_so, qs_do, qs_go, qs_no, qs_mo, qs_oo, qs_fo, qs_ro, qs_co, qs_ao, qs_xo, qs_hf, qs_tf, qs_sf, qs_df, qs_gf, qs_nf, qs_mf, qs_of, qs_ff, qs_rf, qs_cf, qs_af, qs_xf, qs_hr, qs_tr, qs_sr, qs_dr, qs_gr, qs_nr, qs_mr, qs_or, qs_fr, qs_rr, qs_cr, qs_ar, qs_xr, qs_hc, qs_tc, qs_sc, qs_dc, qs_gc, qs_nc, qs_mc, qs_oc, qs_fc, qs_rc, qs_cc, qs_ac, qs_xc, qs_ha, qs_ta, qs_sa, qs_da, qs_ga, qs_na, qs_ma, qs_oa, qs_fa, qs_ra, qs_ca, qs_aa, qs_xa, qs_hx, qs_tx, qs_sx, qs_dx, qs_gx, qs_nx, qs_mx, qs_ox, qs_fx, qs_rx, qs_cx, qs_ax, qs_xx, pd_sub1 (x := qh Q) h1, wQ_h, wQ_d, pd_il (a := 50) (t := 0) (mm := 64) rfl rfl (show qh Q - 1 < 64 by omega) (by omega), eQ_f, hf]
  exact lp111 (Q := sD (sH Q (qh Q - 1)) (qd Q - 1)) ht h28 (t - f) f (by omega) hj
theorem en_loop {f t : Nat} (hd : 2 ≤ d) (hb : qs Q + qh Q ≤ 63) (hm : qab Q = 11) (h1 : 1 ≤ qh Q) (hf : qf Q (qh Q - 1) = Int32.ofNat f) (hf1 : f ≤ t) (ht : t < qs Q) (h28 : qc Q (512 + t) = 28) (hj : ∀ j, f ≤ j → j < t → qc Q (512 + j) ≠ 28) : mm_ev xs Ls pd_ck pd_ak pd_mj d 111 [.ref (43 : Nat), .int 125] (pd_st (eQ I0 (Q)) D (pd_RF q) J n) = some (.inl (some (.int 3)), (pd_st (eQ I0 (sA (qem (sD (sH Q (qh Q - 1)) (qd Q - 1)) 29 (Int32.ofNat f)) (512 + t) (Int32.ofNat (qs Q + 1)))) D (pd_RF q) J n)) := by
  obtain ⟨d, rfl⟩ : ∃ e, d = e + 1 := ⟨d - 1, by omega⟩
  refine pd_ev_of (Nat.le_of_ble_eq_true rfl) ?_
  rw [show pd_mj 111 = pd_m111 from rfl, show mm_pad (mm_in [.ref (43 : Nat), .int 125]) pd_m111.nL = [some (.ref (43 : Nat)), some (.int 125), none, none, none] from rfl]
  have e1 : ((125 : Int32) = 59) = False := eq_false (by decide)
  have e2 : ((125 : Int32) = 0) = False := eq_false (by decide)
  have e6 : ((125 : Int32) = 124) = False := eq_false (by decide)
  have e7 : ((11 : Int32) = 13) = False := eq_false (by decide)
  have e8 : ((11 : Int32) = 10) = False := eq_false (by decide)
  simp only [p111_0, p111_1, p111_4, p111_5, p111_6, p111_8, p111_11, p111_12, p111_13, p111_14, p111_17, p111_18, p111_21, p111_24, p111_26, p111_29, p111_30, p111_31, p111_32, p111_34, p111_37, p111_38, p111_40, p111_43, p111_44, p111_46, p111_47, p111_50, p111_51, p111_54, p111_57, p111_58, p111_61, p111_62, p111_65, p111_66, p111_67, p111_68, p111_69, p111_70, p111_73, p111_74, p111_75, p111_78, p111_79, p111_82, p111_83, p111_84, p111_86, p111_87, p111_88, p111_89, p111_90, p111_92, p111_95, p111_96, p111_98, p111_101, p111_102, p111_104, p111_107, p111_108, p111_110, p111_113, p111_114, p111_115, p111_116, p111_117, p111_120, p111_121, p111_122, p111_125, p111_126, p111_127, p111_130, p111_131, p111_132, p111_135, p111_136, p111_139, p111_140, p111_143, p111_144, p111_145, p111_146, p111_148, p111_151, p111_152, p111_154, p111_155, p111_158, p111_159, p111_162, p111_165, p111_166, p111_167, p111_168, p111_171, p111_172, p111_175, p111_176, p111_178, p111_181, p111_182, p111_184, p111_185, p111_188, p111_189, p111_192, p111_195, p111_198, p111_200, p111_201, p111_202, p111_204, p111_207, p111_210, p111_213, p111_214, p111_217, p111_220, p111_222, p111_223, p111_224, p111_227, p111_228, p111_229, gf7_1 sh43, gf7_10 sh43, gf7_12 sh43, gf7_15 sh43, gf7_2 sh43, gf7_3 sh43, gf7_5 sh43, gf7_6 sh43, mm_e0, pd_stI, pf7_10 sh43, pf7_15 sh43, qi0 sh43, qi2 sh43, so5_2i, so5_3i, so5_4i, mm_lA, mm_lI, mm_lD, mm_lJ, mm_ld0, mm_lds, pd_Kgo, pd_Kend, pd_Kno, pd_Kite, mm_i, mm_ii, mm_r, mm_1, mm_icmp, cond_true, cond_false, mm_o2, mm_c2, wt0, wt1, wt2, wt3, wt4, va_rfs, pd_bkv, pd_bkn, pd_bkif, pd_st1, Nat.reduceAdd, Nat.reduceLeDiff, Bool.or_false, Bool.or_self, ev99 (d := d) (Q := Q) (by omega) (by omega), if_true, e1, e2, e6, e7, e8, if_false, hm, rm_3, rm_6, eQ_h, eQ_d, eQ_s, qs_hh, qs_th, qs_sh, qs_dh, qs_gh, qs_nh, qs_mh, qs_oh, qs_fh, qs_rh, qs_ch, qs_ah, qs_xh, qs_ht, qs_tt, qs_st, qs_dt, qs_gt, qs_nt, qs_mt, qs_ot, qs_ft, qs_rt, qs_ct, qs_at, qs_xt, qs_hs, qs_ts, qs_ss, qs_ds, qs_gs, qs_ns, qs_ms, qs_os, qs_fs, qs_rs, qs_cs, qs_as, qs_xs, qs_hd, qs_td, qs_sd, qs_dd, qs_gd, qs_nd, qs_md, qs_od, qs_fd, qs_rd, qs_cd, qs_ad, qs_xd, qs_hg, qs_tg, qs_sg, qs_dg, qs_gg, qs_ng, qs_mg, qs_og, qs_fg, qs_rg, qs_cg, qs_ag, qs_xg, qs_hn, qs_tn, qs_sn, qs_dn, qs_gn, qs_nn, qs_mn, qs_on, qs_fn, qs_rn, qs_cn, qs_an, qs_xn, qs_hm, qs_tm, qs_sm, qs_dm, qs_gm, qs_nm, qs_mm, qs_om, qs_fm, qs_rm, qs_cm, qs_am, qs_xm, qs_ho, qs_to, qs_so, qs_do, qs_go, qs_no, qs_mo, qs_oo, qs_fo, qs_ro, qs_co, qs_ao, qs_xo, qs_hf, qs_tf, qs_sf, qs_df, qs_gf, qs_nf, qs_mf, qs_of, qs_ff, qs_rf, qs_cf, qs_af, qs_xf, qs_hr, qs_tr, qs_sr, qs_dr, qs_gr, qs_nr, qs_mr, qs_or, qs_fr, qs_rr, qs_cr, qs_ar, qs_xr, qs_hc, qs_tc, qs_sc, qs_dc, qs_gc, qs_nc, qs_mc, qs_oc, qs_fc, qs_rc, qs_cc, qs_ac, qs_xc, qs_ha, qs_ta, qs_sa, qs_da, qs_ga, qs_na, qs_ma, qs_oa, qs_fa, qs_ra, qs_ca, qs_aa, qs_xa, qs_hx, qs_tx, qs_sx, qs_dx, qs_gx, qs_nx, qs_mx, qs_ox, qs_fx, qs_rx, qs_cx, qs_ax, qs_xx, pd_sub1 (x := qh Q) h1, wQ_h, wQ_d, pd_il (a := 50) (t := 0) (mm := 64) rfl rfl (show qh Q - 1 < 64 by omega) (by omega), eQ_f, hf, ev96 (d := d) (Q := sD (sH Q (qh Q - 1)) (qd Q - 1)) (by omega) (show qs Q < 128 by omega)]
  have e9 : ∀ j, j ≤ t → qc (qem (sD (sH Q (qh Q - 1)) (qd Q - 1)) 29 (Int32.ofNat f)) (512 + j) = qc Q (512 + j) := by
    intro j hj
    show pd_up (qc Q) (512 + qs Q) 29 (512 + j) = _
    unfold pd_up
    rw [if_neg (by omega)]
  exact lp111 (Q := qem (sD (sH Q (qh Q - 1)) (qd Q - 1)) 29 (Int32.ofNat f)) (t := t) (by omega) (by rw [e9 t (Nat.le_refl _)]; exact h28) (t - f) f (by omega) (fun j k1 k2 => by rw [e9 j (by omega)]; exact hj j k1 k2)
theorem en_no {c : Int32} (hd : 2 ≤ d) (hh : qh Q ≤ 64) (c1 : c ≠ 59) (c2 : c ≠ 0) (c3 : c = 124 → qab Q ≠ 12) (c4 : c = 125 → qab Q ≠ 10 ∧ qab Q ≠ 11 ∧ qab Q ≠ 13) : mm_ev xs Ls pd_ck pd_ak pd_mj d 111 [.ref (43 : Nat), .int c] (pd_st (eQ I0 (Q)) D (pd_RF q) J n) = some (.inl (some (.int (-1))), (pd_st (eQ I0 (Q)) D (pd_RF q) J n)) := by
  obtain ⟨d, rfl⟩ : ∃ e, d = e + 1 := ⟨d - 1, by omega⟩
  refine pd_ev_of (Nat.le_of_ble_eq_true rfl) ?_
  rw [show pd_mj 111 = pd_m111 from rfl, show mm_pad (mm_in [.ref (43 : Nat), .int c]) pd_m111.nL = [some (.ref (43 : Nat)), some (.int c), none, none, none] from rfl]
  by_cases k3 : c = 124
  · have k4 : ¬ (c = 125) := by rw [k3]; decide
    have k5 := c3 k3
    simp only [p111_0, p111_1, p111_4, p111_5, p111_6, p111_8, p111_11, p111_12, p111_13, p111_14, p111_17, p111_18, p111_21, p111_24, p111_26, p111_29, p111_30, p111_31, p111_32, p111_34, p111_37, p111_38, p111_40, p111_43, p111_44, p111_46, p111_47, p111_50, p111_51, p111_54, p111_57, p111_58, p111_61, p111_62, p111_65, p111_66, p111_67, p111_68, p111_69, p111_70, p111_73, p111_74, p111_75, p111_78, p111_79, p111_82, p111_83, p111_84, p111_86, p111_87, p111_88, p111_89, p111_90, p111_92, p111_95, p111_96, p111_98, p111_101, p111_102, p111_104, p111_107, p111_108, p111_110, p111_113, p111_114, p111_115, p111_116, p111_117, p111_120, p111_121, p111_122, p111_125, p111_126, p111_127, p111_130, p111_131, p111_132, p111_135, p111_136, p111_139, p111_140, p111_143, p111_144, p111_145, p111_146, p111_148, p111_151, p111_152, p111_154, p111_155, p111_158, p111_159, p111_162, p111_165, p111_166, p111_167, p111_168, p111_171, p111_172, p111_175, p111_176, p111_178, p111_181, p111_182, p111_184, p111_185, p111_188, p111_189, p111_192, p111_195, p111_198, p111_200, p111_201, p111_202, p111_204, p111_207, p111_210, p111_213, p111_214, p111_217, p111_220, p111_222, p111_223, p111_224, p111_227, p111_228, p111_229, gf7_1 sh43, gf7_10 sh43, gf7_12 sh43, gf7_15 sh43, gf7_2 sh43, gf7_3 sh43, gf7_5 sh43, gf7_6 sh43, mm_e0, pd_stI, pf7_10 sh43, pf7_15 sh43, qi0 sh43, qi2 sh43, so5_2i, so5_3i, so5_4i, mm_lA, mm_lI, mm_lD, mm_lJ, mm_ld0, mm_lds, pd_Kgo, pd_Kend, pd_Kno, pd_Kite, mm_i, mm_ii, mm_r, mm_1, mm_icmp, cond_true, cond_false, mm_o2, mm_c2, wt0, wt1, wt2, wt3, wt4, va_rfs, pd_bkv, pd_bkn, pd_bkif, pd_st1, Nat.reduceAdd, Nat.reduceLeDiff, Bool.or_false, Bool.or_self, ev99 (d := d) (Q := Q) (by omega) hh, if_neg c1, if_neg c2, if_pos k3, if_neg k5, if_neg k4]
  · by_cases k4 : c = 125
    · obtain ⟨k5, k6, k7⟩ := c4 k4
      simp only [p111_0, p111_1, p111_4, p111_5, p111_6, p111_8, p111_11, p111_12, p111_13, p111_14, p111_17, p111_18, p111_21, p111_24, p111_26, p111_29, p111_30, p111_31, p111_32, p111_34, p111_37, p111_38, p111_40, p111_43, p111_44, p111_46, p111_47, p111_50, p111_51, p111_54, p111_57, p111_58, p111_61, p111_62, p111_65, p111_66, p111_67, p111_68, p111_69, p111_70, p111_73, p111_74, p111_75, p111_78, p111_79, p111_82, p111_83, p111_84, p111_86, p111_87, p111_88, p111_89, p111_90, p111_92, p111_95, p111_96, p111_98, p111_101, p111_102, p111_104, p111_107, p111_108, p111_110, p111_113, p111_114, p111_115, p111_116, p111_117, p111_120, p111_121, p111_122, p111_125, p111_126, p111_127, p111_130, p111_131, p111_132, p111_135, p111_136, p111_139, p111_140, p111_143, p111_144, p111_145, p111_146, p111_148, p111_151, p111_152, p111_154, p111_155, p111_158, p111_159, p111_162, p111_165, p111_166, p111_167, p111_168, p111_171, p111_172, p111_175, p111_176, p111_178, p111_181, p111_182, p111_184, p111_185, p111_188, p111_189, p111_192, p111_195, p111_198, p111_200, p111_201, p111_202, p111_204, p111_207, p111_210, p111_213, p111_214, p111_217, p111_220, p111_222, p111_223, p111_224, p111_227, p111_228, p111_229, gf7_1 sh43, gf7_10 sh43, gf7_12 sh43, gf7_15 sh43, gf7_2 sh43, gf7_3 sh43, gf7_5 sh43, gf7_6 sh43, mm_e0, pd_stI, pf7_10 sh43, pf7_15 sh43, qi0 sh43, qi2 sh43, so5_2i, so5_3i, so5_4i, mm_lA, mm_lI, mm_lD, mm_lJ, mm_ld0, mm_lds, pd_Kgo, pd_Kend, pd_Kno, pd_Kite, mm_i, mm_ii, mm_r, mm_1, mm_icmp, cond_true, cond_false, mm_o2, mm_c2, wt0, wt1, wt2, wt3, wt4, va_rfs, pd_bkv, pd_bkn, pd_bkif, pd_st1, Nat.reduceAdd, Nat.reduceLeDiff, Bool.or_false, Bool.or_self, ev99 (d := d) (Q := Q) (by omega) hh, if_neg c1, if_neg c2, if_neg k3, if_pos k4, if_neg k5, if_neg k6, if_neg k7]
    · simp only [p111_0, p111_1, p111_4, p111_5, p111_6, p111_8, p111_11, p111_12, p111_13, p111_14, p111_17, p111_18, p111_21, p111_24, p111_26, p111_29, p111_30, p111_31, p111_32, p111_34, p111_37, p111_38, p111_40, p111_43, p111_44, p111_46, p111_47, p111_50, p111_51, p111_54, p111_57, p111_58, p111_61, p111_62, p111_65, p111_66, p111_67, p111_68, p111_69, p111_70, p111_73, p111_74, p111_75, p111_78, p111_79, p111_82, p111_83, p111_84, p111_86, p111_87, p111_88, p111_89, p111_90, p111_92, p111_95, p111_96, p111_98, p111_101, p111_102, p111_104, p111_107, p111_108, p111_110, p111_113, p111_114, p111_115, p111_116, p111_117, p111_120, p111_121, p111_122, p111_125, p111_126, p111_127, p111_130, p111_131, p111_132, p111_135, p111_136, p111_139, p111_140, p111_143, p111_144, p111_145, p111_146, p111_148, p111_151, p111_152, p111_154, p111_155, p111_158, p111_159, p111_162, p111_165, p111_166, p111_167, p111_168, p111_171, p111_172, p111_175, p111_176, p111_178, p111_181, p111_182, p111_184, p111_185, p111_188, p111_189, p111_192, p111_195, p111_198, p111_200, p111_201, p111_202, p111_204, p111_207, p111_210, p111_213, p111_214, p111_217, p111_220, p111_222, p111_223, p111_224, p111_227, p111_228, p111_229, gf7_1 sh43, gf7_10 sh43, gf7_12 sh43, gf7_15 sh43, gf7_2 sh43, gf7_3 sh43, gf7_5 sh43, gf7_6 sh43, mm_e0, pd_stI, pf7_10 sh43, pf7_15 sh43, qi0 sh43, qi2 sh43, so5_2i, so5_3i, so5_4i, mm_lA, mm_lI, mm_lD, mm_lJ, mm_ld0, mm_lds, pd_Kgo, pd_Kend, pd_Kno, pd_Kite, mm_i, mm_ii, mm_r, mm_1, mm_icmp, cond_true, cond_false, mm_o2, mm_c2, wt0, wt1, wt2, wt3, wt4, va_rfs, pd_bkv, pd_bkn, pd_bkif, pd_st1, Nat.reduceAdd, Nat.reduceLeDiff, Bool.or_false, Bool.or_self, ev99 (d := d) (Q := Q) (by omega) hh, if_neg c1, if_neg c2, if_neg k3, if_neg k4]
end REF2
