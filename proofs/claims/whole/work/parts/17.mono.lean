/-! WHAT CELLS COME: how the count of cells and slots moves -/
def mm_mo (ck : Nat → List Nat) (S S' : mm_St) : Prop := mm_co S ≤ mm_co S' ∧ mm_sl ck S ≤ mm_sl ck S' ∧ S.2.2 ≤ S'.2.2
def mm_rS : mm_Z ⊕ mm_O → mm_St
  | .inl z => z.2.2.2
  | .inr o => o.2
theorem mm_mo.rf {ck : Nat → List Nat} {S : mm_St} : mm_mo ck S S := ⟨Nat.le_refl _, Nat.le_refl _, Nat.le_refl _⟩
theorem mm_mo.tr {ck : Nat → List Nat} {S S1 S2 : mm_St} (h : mm_mo ck S S1) (k : mm_mo ck S1 S2) : mm_mo ck S S2 := ⟨Nat.le_trans h.1 k.1, Nat.le_trans h.2.1 k.2.1, Nat.le_trans h.2.2 k.2.2⟩
theorem mm_tsw_S {x : Int32} {d lo : Int} {os : List Int} {r0 : mm_Z ⊕ mm_O} {pc : Nat} {L : mm_L} {r : List Value} {S : mm_St} (h : mm_tsw x (fun o => mm_go (mm_tg pc o) L r S) d lo os = some r0) : ∃ z', r0 = .inl z' ∧ z'.2.2.2 = S := by
  induction os generalizing lo with
  | nil => cases h; exact ⟨_, rfl, rfl⟩
  | cons o os ih =>
    unfold mm_tsw at h
    split at h
    · cases h; exact ⟨_, rfl, rfl⟩
    · exact ih h
theorem mm_lsw_S {x : Int32} {d : Int} {ps : List (Int × Int)} {r0 : mm_Z ⊕ mm_O} {pc : Nat} {L : mm_L} {r : List Value} {S : mm_St} (h : mm_lsw x (fun o => mm_go (mm_tg pc o) L r S) d ps = some r0) : ∃ z', r0 = .inl z' ∧ z'.2.2.2 = S := by
  induction ps with
  | nil => cases h; exact ⟨_, rfl, rfl⟩
  | cons o os ih =>
    obtain ⟨a, o⟩ := o
    unfold mm_lsw at h
    split at h
    · cases h; exact ⟨_, rfl, rfl⟩
    · exact ih h
set_option maxHeartbeats 4000000 in
theorem mm_pure_S {call : Nat → List Value → mm_St → Option mm_O} {xs : Nat → Int32} {Ls : Nat} {ck : Nat → List Nat} {ak : Nat → FieldType} {me : mm_Me} {pc : Nat} {L : mm_L} {st : List Value} {S : mm_St} {r0 : mm_Z ⊕ mm_O} (i : Instr) (hp : mm_isP i = true) (h : mm_do call xs Ls ck ak me pc L st S i = some r0) : ∃ z', r0 = .inl z' ∧ z'.2.2.2 = S := by
  cases i with
  | iconst n =>
    cases h
    exact ⟨_, rfl, rfl⟩
  | bipush n =>
    cases h
    exact ⟨_, rfl, rfl⟩
  | sipush n =>
    cases h
    exact ⟨_, rfl, rfl⟩
  | lconst n =>
    cases h
    exact ⟨_, rfl, rfl⟩
  | dconst n =>
    cases h
    exact ⟨_, rfl, rfl⟩
  | aconst_null =>
    cases h
    exact ⟨_, rfl, rfl⟩
  | iload_n n =>
    obtain ⟨x, hv, h⟩ := mm_lI_inv h
    cases h
    exact ⟨_, rfl, rfl⟩
  | iload n =>
    obtain ⟨x, hv, h⟩ := mm_lI_inv h
    cases h
    exact ⟨_, rfl, rfl⟩
  | lload_n n =>
    obtain ⟨x, hv, h⟩ := mm_lJ_inv h
    cases h
    exact ⟨_, rfl, rfl⟩
  | lload n =>
    obtain ⟨x, hv, h⟩ := mm_lJ_inv h
    cases h
    exact ⟨_, rfl, rfl⟩
  | dload_n n =>
    obtain ⟨x, hv, h⟩ := mm_lD_inv h
    cases h
    exact ⟨_, rfl, rfl⟩
  | dload n =>
    obtain ⟨x, hv, h⟩ := mm_lD_inv h
    cases h
    exact ⟨_, rfl, rfl⟩
  | aload_n n =>
    have h : (mm_lA L n fun v => mm_go (pc + 1) L (v :: st) S) = some r0 := h
    rcases mm_lA_inv h with ⟨x, hv, h⟩ | ⟨x, hv, h⟩
    · cases h
      exact ⟨_, rfl, rfl⟩
    · cases h
      exact ⟨_, rfl, rfl⟩
  | aload n =>
    have h : (mm_lA L n fun v => mm_go (pc + 2) L (v :: st) S) = some r0 := h
    rcases mm_lA_inv h with ⟨x, hv, h⟩ | ⟨x, hv, h⟩
    · cases h
      exact ⟨_, rfl, rfl⟩
    · cases h
      exact ⟨_, rfl, rfl⟩
  | istore_n n =>
    obtain ⟨x, r, rfl, h⟩ := mm_i_inv h
    cases h
    exact ⟨_, rfl, rfl⟩
  | istore n =>
    obtain ⟨x, r, rfl, h⟩ := mm_i_inv h
    cases h
    exact ⟨_, rfl, rfl⟩
  | astore_n n =>
    obtain ⟨x, r, rfl, h⟩ := mm_r_inv h
    cases h
    exact ⟨_, rfl, rfl⟩
  | astore n =>
    obtain ⟨x, r, rfl, h⟩ := mm_r_inv h
    cases h
    exact ⟨_, rfl, rfl⟩
  | lstore_n n =>
    obtain ⟨x, r, rfl, h⟩ := mm_j_inv h
    cases h
    exact ⟨_, rfl, rfl⟩
  | lstore n =>
    obtain ⟨x, r, rfl, h⟩ := mm_j_inv h
    cases h
    exact ⟨_, rfl, rfl⟩
  | dstore_n n =>
    obtain ⟨x, r, rfl, h⟩ := mm_d_inv h
    cases h
    exact ⟨_, rfl, rfl⟩
  | dstore n =>
    obtain ⟨x, r, rfl, h⟩ := mm_d_inv h
    cases h
    exact ⟨_, rfl, rfl⟩
  | iinc n z =>
    obtain ⟨x, hv, h⟩ := mm_lI_inv h
    cases h
    exact ⟨_, rfl, rfl⟩
  | iadd =>
    obtain ⟨x, y, r, rfl, h⟩ := mm_ii_inv h
    cases h
    exact ⟨_, rfl, rfl⟩
  | isub =>
    obtain ⟨x, y, r, rfl, h⟩ := mm_ii_inv h
    cases h
    exact ⟨_, rfl, rfl⟩
  | imul =>
    obtain ⟨x, y, r, rfl, h⟩ := mm_ii_inv h
    cases h
    exact ⟨_, rfl, rfl⟩
  | iand =>
    obtain ⟨x, y, r, rfl, h⟩ := mm_ii_inv h
    cases h
    exact ⟨_, rfl, rfl⟩
  | ior =>
    obtain ⟨x, y, r, rfl, h⟩ := mm_ii_inv h
    cases h
    exact ⟨_, rfl, rfl⟩
  | ixor =>
    obtain ⟨x, y, r, rfl, h⟩ := mm_ii_inv h
    cases h
    exact ⟨_, rfl, rfl⟩
  | ishl =>
    obtain ⟨x, y, r, rfl, h⟩ := mm_ii_inv h
    cases h
    exact ⟨_, rfl, rfl⟩
  | ishr =>
    obtain ⟨x, y, r, rfl, h⟩ := mm_ii_inv h
    cases h
    exact ⟨_, rfl, rfl⟩
  | iushr =>
    obtain ⟨x, y, r, rfl, h⟩ := mm_ii_inv h
    cases h
    exact ⟨_, rfl, rfl⟩
  | idiv =>
    obtain ⟨x, y, r, rfl, h⟩ := mm_ii_inv h
    have h : (if y = 0 then none else mm_go (pc + 1) L (.int (x / y) :: r) S) = some r0 := h
    by_cases hy : y = 0
    · rw [if_pos hy] at h; cases h
    · rw [if_neg hy] at h
      cases h
      exact ⟨_, rfl, rfl⟩
  | irem =>
    obtain ⟨x, y, r, rfl, h⟩ := mm_ii_inv h
    have h : (if y = 0 then none else mm_go (pc + 1) L (.int (x - x / y * y) :: r) S) = some r0 := h
    by_cases hy : y = 0
    · rw [if_pos hy] at h; cases h
    · rw [if_neg hy] at h
      cases h
      exact ⟨_, rfl, rfl⟩
  | ineg =>
    obtain ⟨x, r, rfl, h⟩ := mm_i_inv h
    cases h
    exact ⟨_, rfl, rfl⟩
  | ladd =>
    obtain ⟨x, y, r, rfl, h⟩ := mm_jj_inv h
    cases h
    exact ⟨_, rfl, rfl⟩
  | lsub =>
    obtain ⟨x, y, r, rfl, h⟩ := mm_jj_inv h
    cases h
    exact ⟨_, rfl, rfl⟩
  | land =>
    obtain ⟨x, y, r, rfl, h⟩ := mm_jj_inv h
    cases h
    exact ⟨_, rfl, rfl⟩
  | lor =>
    obtain ⟨x, y, r, rfl, h⟩ := mm_jj_inv h
    cases h
    exact ⟨_, rfl, rfl⟩
  | lcmp =>
    obtain ⟨x, y, r, rfl, h⟩ := mm_jj_inv h
    cases h
    exact ⟨_, rfl, rfl⟩
  | lushr =>
    obtain ⟨x, y, r, rfl, h⟩ := mm_ji_inv h
    cases h
    exact ⟨_, rfl, rfl⟩
  | lshr =>
    obtain ⟨x, y, r, rfl, h⟩ := mm_ji_inv h
    cases h
    exact ⟨_, rfl, rfl⟩
  | lshl =>
    obtain ⟨x, y, r, rfl, h⟩ := mm_ji_inv h
    cases h
    exact ⟨_, rfl, rfl⟩
  | i2l =>
    obtain ⟨x, r, rfl, h⟩ := mm_i_inv h
    cases h
    exact ⟨_, rfl, rfl⟩
  | l2i =>
    obtain ⟨x, r, rfl, h⟩ := mm_j_inv h
    cases h
    exact ⟨_, rfl, rfl⟩
  | i2c =>
    obtain ⟨x, r, rfl, h⟩ := mm_i_inv h
    cases h
    exact ⟨_, rfl, rfl⟩
  | i2b =>
    obtain ⟨x, r, rfl, h⟩ := mm_i_inv h
    cases h
    exact ⟨_, rfl, rfl⟩
  | i2d =>
    obtain ⟨x, r, rfl, h⟩ := mm_i_inv h
    cases h
    exact ⟨_, rfl, rfl⟩
  | d2i =>
    obtain ⟨x, r, rfl, h⟩ := mm_d_inv h
    cases h
    exact ⟨_, rfl, rfl⟩
  | dneg =>
    obtain ⟨x, r, rfl, h⟩ := mm_d_inv h
    cases h
    exact ⟨_, rfl, rfl⟩
  | dadd =>
    obtain ⟨x, y, r, rfl, h⟩ := mm_dd_inv h
    obtain ⟨hq, h⟩ := mm_cond_inv h
    cases h
    exact ⟨_, rfl, rfl⟩
  | dsub =>
    obtain ⟨x, y, r, rfl, h⟩ := mm_dd_inv h
    obtain ⟨hq, h⟩ := mm_cond_inv h
    cases h
    exact ⟨_, rfl, rfl⟩
  | dmul =>
    obtain ⟨x, y, r, rfl, h⟩ := mm_dd_inv h
    obtain ⟨hq, h⟩ := mm_cond_inv h
    cases h
    exact ⟨_, rfl, rfl⟩
  | ddiv =>
    obtain ⟨x, y, r, rfl, h⟩ := mm_dd_inv h
    obtain ⟨hq, h⟩ := mm_cond_inv h
    cases h
    exact ⟨_, rfl, rfl⟩
  | dcmp op =>
    obtain ⟨x, y, r, rfl, h⟩ := mm_dd_inv h
    cases h
    exact ⟨_, rfl, rfl⟩
  | dup =>
    obtain ⟨v, r, rfl, h⟩ := mm_1_inv h
    obtain ⟨hv, h⟩ := mm_condn_inv h
    cases h
    exact ⟨_, rfl, rfl⟩
  | pop =>
    obtain ⟨v, r, rfl, h⟩ := mm_1_inv h
    obtain ⟨hv, h⟩ := mm_condn_inv h
    cases h
    exact ⟨_, rfl, rfl⟩
  | dup_x1 =>
    obtain ⟨v, w, r, rfl, h⟩ := mm_2_inv h
    obtain ⟨hv, h⟩ := mm_condn_inv h
    rw [Bool.or_eq_false_iff] at hv
    cases h
    exact ⟨_, rfl, rfl⟩
  | dup2 =>
    obtain ⟨v, w, r, rfl, h⟩ := mm_2_inv h
    obtain ⟨hv, h⟩ := mm_condn_inv h
    rw [Bool.or_eq_false_iff] at hv
    cases h
    exact ⟨_, rfl, rfl⟩
  | dup_x2 =>
    obtain ⟨v, w, u, r, rfl, h⟩ := mm_3_inv h
    obtain ⟨hv, h⟩ := mm_condn_inv h
    rw [Bool.or_eq_false_iff, Bool.or_eq_false_iff] at hv
    cases h
    exact ⟨_, rfl, rfl⟩
  | goto o =>
    cases h
    exact ⟨_, rfl, rfl⟩
  | ifCond cn o =>
    obtain ⟨x, r, rfl, h⟩ := mm_i_inv h
    cases cn with
    | eq =>
      have h : (if x = 0 then mm_go (mm_tg pc o) L r S else mm_go (pc + 3) L r S) = some r0 := h
      by_cases hc : x = 0
      · rw [if_pos hc] at h
        cases h
        exact ⟨_, rfl, rfl⟩
      · rw [if_neg hc] at h
        cases h
        exact ⟨_, rfl, rfl⟩
    | ne =>
      have h : (if x = 0 then mm_go (pc + 3) L r S else mm_go (mm_tg pc o) L r S) = some r0 := h
      by_cases hc : x = 0
      · rw [if_pos hc] at h
        cases h
        exact ⟨_, rfl, rfl⟩
      · rw [if_neg hc] at h
        cases h
        exact ⟨_, rfl, rfl⟩
    | lt =>
      have h : (if x < 0 then mm_go (mm_tg pc o) L r S else mm_go (pc + 3) L r S) = some r0 := h
      by_cases hc : x < 0
      · rw [if_pos hc] at h
        cases h
        exact ⟨_, rfl, rfl⟩
      · rw [if_neg hc] at h
        cases h
        exact ⟨_, rfl, rfl⟩
    | ge =>
      have h : (if 0 ≤ x then mm_go (mm_tg pc o) L r S else mm_go (pc + 3) L r S) = some r0 := h
      by_cases hc : 0 ≤ x
      · rw [if_pos hc] at h
        cases h
        exact ⟨_, rfl, rfl⟩
      · rw [if_neg hc] at h
        cases h
        exact ⟨_, rfl, rfl⟩
    | gt =>
      have h : (if 0 < x then mm_go (mm_tg pc o) L r S else mm_go (pc + 3) L r S) = some r0 := h
      by_cases hc : 0 < x
      · rw [if_pos hc] at h
        cases h
        exact ⟨_, rfl, rfl⟩
      · rw [if_neg hc] at h
        cases h
        exact ⟨_, rfl, rfl⟩
    | le =>
      have h : (if x ≤ 0 then mm_go (mm_tg pc o) L r S else mm_go (pc + 3) L r S) = some r0 := h
      by_cases hc : x ≤ 0
      · rw [if_pos hc] at h
        cases h
        exact ⟨_, rfl, rfl⟩
      · rw [if_neg hc] at h
        cases h
        exact ⟨_, rfl, rfl⟩
  | if_icmp cn o =>
    obtain ⟨x, y, r, rfl, h⟩ := mm_ii_inv h
    cases cn with
    | eq =>
      have h : (if x = y then mm_go (mm_tg pc o) L r S else mm_go (pc + 3) L r S) = some r0 := h
      by_cases hc : x = y
      · rw [if_pos hc] at h
        cases h
        exact ⟨_, rfl, rfl⟩
      · rw [if_neg hc] at h
        cases h
        exact ⟨_, rfl, rfl⟩
    | ne =>
      have h : (if x = y then mm_go (pc + 3) L r S else mm_go (mm_tg pc o) L r S) = some r0 := h
      by_cases hc : x = y
      · rw [if_pos hc] at h
        cases h
        exact ⟨_, rfl, rfl⟩
      · rw [if_neg hc] at h
        cases h
        exact ⟨_, rfl, rfl⟩
    | lt =>
      have h : (if x < y then mm_go (mm_tg pc o) L r S else mm_go (pc + 3) L r S) = some r0 := h
      by_cases hc : x < y
      · rw [if_pos hc] at h
        cases h
        exact ⟨_, rfl, rfl⟩
      · rw [if_neg hc] at h
        cases h
        exact ⟨_, rfl, rfl⟩
    | ge =>
      have h : (if y ≤ x then mm_go (mm_tg pc o) L r S else mm_go (pc + 3) L r S) = some r0 := h
      by_cases hc : y ≤ x
      · rw [if_pos hc] at h
        cases h
        exact ⟨_, rfl, rfl⟩
      · rw [if_neg hc] at h
        cases h
        exact ⟨_, rfl, rfl⟩
    | gt =>
      have h : (if y < x then mm_go (mm_tg pc o) L r S else mm_go (pc + 3) L r S) = some r0 := h
      by_cases hc : y < x
      · rw [if_pos hc] at h
        cases h
        exact ⟨_, rfl, rfl⟩
      · rw [if_neg hc] at h
        cases h
        exact ⟨_, rfl, rfl⟩
    | le =>
      have h : (if x ≤ y then mm_go (mm_tg pc o) L r S else mm_go (pc + 3) L r S) = some r0 := h
      by_cases hc : x ≤ y
      · rw [if_pos hc] at h
        cases h
        exact ⟨_, rfl, rfl⟩
      · rw [if_neg hc] at h
        cases h
        exact ⟨_, rfl, rfl⟩
  | ifnull o =>
    obtain ⟨v, r, rfl, h⟩ := mm_1_inv h
    cases v with
    | ref a =>
      cases h
      exact ⟨_, rfl, rfl⟩
    | null =>
      cases h
      exact ⟨_, rfl, rfl⟩
    | _ => cases h
  | ifnonnull o =>
    obtain ⟨v, r, rfl, h⟩ := mm_1_inv h
    cases v with
    | ref a =>
      cases h
      exact ⟨_, rfl, rfl⟩
    | null =>
      cases h
      exact ⟨_, rfl, rfl⟩
    | _ => cases h
  | tableswitch d lo hi os =>
    obtain ⟨x, r, rfl, h⟩ := mm_i_inv h
    exact mm_tsw_S h
  | lookupswitch d ps =>
    obtain ⟨x, r, rfl, h⟩ := mm_i_inv h
    exact mm_lsw_S h
  | _ => cases hp
