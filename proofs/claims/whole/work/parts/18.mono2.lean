section MO
variable {call : Nat → List Value → mm_St → Option mm_O} {xs : Nat → Int32} {Ls : Nat} {ck : Nat → List Nat} {ak : Nat → FieldType} {me : mm_Me} {pc : Nat} {L : mm_L} {st : List Value} {S : mm_St} {r0 : mm_Z ⊕ mm_O}
theorem mm_new_mo (S : mm_St) (sh : Nat ⊕ (Nat × Nat)) : mm_mo ck S (mm_new S sh) := by
  refine ⟨?_, ?_, Nat.le_refl _⟩
  · show S.1.length + S.2.2 ≤ (S.1 ++ [sh]).length + S.2.2
    rw [List.length_append]
    omega
  · show mm_sz ck S.1 + 6 * S.2.2 ≤ mm_sz ck (S.1 ++ [sh]) + 6 * S.2.2
    rw [mm_sz_app]
    omega
theorem mm_hs_mo {E : Nat} (hs : List (Nat × Nat × Nat × Nat)) (h : mm_hs me pc L E S hs = some r0) : mm_rS r0 = S := by
  induction hs with
  | nil => cases h
  | cons q hs ih =>
    obtain ⟨a, b, t, ix⟩ := q
    unfold mm_hs at h
    rcases mm_cond2_inv h with ⟨-, h⟩ | ⟨-, h⟩
    · split at h
      · rcases mm_cond2_inv h with ⟨-, h⟩ | ⟨-, h⟩
        · split at h
          · cases h; rfl
          · cases h; rfl
          · cases h
        · exact ih h
      · cases h
    · exact ih h
theorem mm_back_mo {rest : List Value} {o : Option mm_O} (ho : ∀ q, o = some q → mm_mo ck S q.2) (h : mm_back me pc L rest o = some r0) : mm_mo ck S (mm_rS r0) := by
  unfold mm_back at h
  split at h
  next => cases h
  next v S' => cases h; exact ho _ rfl
  next E S' =>
    split at h
    · cases h; exact ho _ rfl
    · obtain ⟨-, h⟩ := mm_cond_inv h
      rw [mm_hs_mo _ h]; exact ho _ rfl
theorem mm_getf_mo {c k : Nat} (h : mm_getf ck pc L st S c k = some r0) : mm_rS r0 = S := by
  unfold mm_getf at h
  split at h
  · split at h
    · obtain ⟨-, h⟩ := mm_cond_inv h
      split at h
      · cases h; rfl
      · cases h
    · cases h
  · cases h
theorem mm_putv_mo {a k kd : Nat} {v : Value} {r : List Value} (h : mm_putv pc L r S a k v kd = some r0) : mm_mo ck S (mm_rS r0) := by
  unfold mm_putv at h
  split at h
  · split at h
    · cases h; exact (mm_mo.rf : mm_mo ck S S)
    · cases h
  · split at h
    · cases h; exact (mm_mo.rf : mm_mo ck S S)
    · cases h
  · split at h
    · cases h; exact (mm_mo.rf : mm_mo ck S S)
    · cases h; exact (mm_mo.rf : mm_mo ck S S)
    · cases h
  · split at h
    · cases h; exact (mm_mo.rf : mm_mo ck S S)
    · cases h
  · split at h
    · split at h
      · cases h; exact (mm_mo.rf : mm_mo ck S S)
      · cases h
    · cases h
  · cases h
theorem mm_putf_mo {c k : Nat} (h : mm_putf ck pc L st S c k = some r0) : mm_mo ck S (mm_rS r0) := by
  unfold mm_putf at h
  split at h
  · split at h
    · obtain ⟨-, h⟩ := mm_cond_inv h
      split at h
      · exact mm_putv_mo h
      · cases h
    · cases h
  · cases h
theorem mm_inv_mo {j n ci : Nat} (hc : ∀ j as S o, call j as S = some o → mm_mo ck S o.2) (h : mm_inv call me pc L st S j n ci = some r0) : mm_mo ck S (mm_rS r0) := by
  obtain ⟨as, a, rest, -, -, -, -, h⟩ := mm_inv_inv h
  exact mm_back_mo (fun q hq => hc _ _ _ _ hq) h
theorem mm_invS_mo {j n : Nat} (hc : ∀ j as S o, call j as S = some o → mm_mo ck S o.2) (h : mm_invS call me pc L st S j n = some r0) : mm_mo ck S (mm_rS r0) := by
  obtain ⟨as, rest, -, -, -, h⟩ := mm_invS_inv h
  exact mm_back_mo (fun q hq => hc _ _ _ _ hq) h
set_option maxHeartbeats 4000000 in
theorem mm_do_mo (hc : ∀ j as S o, call j as S = some o → mm_mo ck S o.2) (i : Instr) (h : mm_do call xs Ls ck ak me pc L st S i = some r0) : mm_mo ck S (mm_rS r0) := by
  by_cases hp : mm_isP i = true
  · obtain ⟨z', rfl, hz⟩ := mm_pure_S i hp h
    show mm_mo ck S z'.2.2.2
    rw [hz]
    exact mm_mo.rf
  · cases i with
    | ldc ix =>
      obtain ⟨k, -, h⟩ := mm_lk_inv h
      obtain ⟨-, h⟩ := mm_cond_inv h
      cases h
      exact mm_mo.rf
    | ldc2_w ix =>
      obtain ⟨k, -, h⟩ := mm_lk_inv h
      rcases mm_cond2_inv h with ⟨-, h⟩ | ⟨-, h⟩
      · cases h; exact mm_mo.rf
      · obtain ⟨-, h⟩ := mm_cond_inv h
        cases h
        exact mm_mo.rf
    | getfield ix =>
      obtain ⟨k, -, h⟩ := mm_lk_inv h
      obtain ⟨-, h⟩ := mm_cond_inv h
      rw [mm_getf_mo h]
      exact mm_mo.rf
    | putfield ix =>
      obtain ⟨k, -, h⟩ := mm_lk_inv h
      obtain ⟨-, h⟩ := mm_cond_inv h
      exact mm_putf_mo h
    | arraylength =>
      obtain ⟨v, r, rfl, h⟩ := mm_1_inv h
      cases v with
      | retAddr w => cases h; exact mm_mo.rf
      | ref a =>
        have h : (match S.1[a]? with
          | some (.inr (_, n)) => mm_go (pc + 1) L (.int (Int32.ofNat n) :: r) S
          | _ => none) = some r0 := h
        split at h
        · cases h; exact mm_mo.rf
        · cases h
      | _ => cases h
    | iaload =>
      have h : mm_ial xs Ls ak pc L S st = some r0 := h
      unfold mm_ial at h
      split at h
      · obtain ⟨-, h⟩ := mm_ix_inv h
        cases h
        exact mm_mo.rf
      · obtain ⟨i, a, r, t, n, -, -, -, -, h⟩ := mm_ai_inv h
        cases h
        exact mm_mo.rf
    | caload => obtain ⟨i, a, r, t, n, -, -, -, -, h⟩ := mm_ai_inv h; cases h; exact mm_mo.rf
    | baload => obtain ⟨i, a, r, t, n, -, -, -, -, h⟩ := mm_ai_inv h; cases h; exact mm_mo.rf
    | daload => obtain ⟨i, a, r, t, n, -, -, -, -, h⟩ := mm_ai_inv h; cases h; exact mm_mo.rf
    | laload => obtain ⟨i, a, r, t, n, -, -, -, -, h⟩ := mm_ai_inv h; cases h; exact mm_mo.rf
    | aaload => obtain ⟨i, a, r, t, n, -, -, -, -, h⟩ := mm_ai_inv h; cases h; exact mm_mo.rf
    | iastore => obtain ⟨x, st, -, h⟩ := mm_i_inv h; obtain ⟨i, a, r, t, n, -, -, -, -, h⟩ := mm_ai_inv h; cases h; exact (mm_mo.rf : mm_mo ck S S)
    | castore => obtain ⟨x, st, -, h⟩ := mm_i_inv h; obtain ⟨i, a, r, t, n, -, -, -, -, h⟩ := mm_ai_inv h; cases h; exact (mm_mo.rf : mm_mo ck S S)
    | bastore => obtain ⟨x, st, -, h⟩ := mm_i_inv h; obtain ⟨i, a, r, t, n, -, -, -, -, h⟩ := mm_ai_inv h; cases h; exact (mm_mo.rf : mm_mo ck S S)
    | dastore => obtain ⟨x, st, -, h⟩ := mm_d_inv h; obtain ⟨i, a, r, t, n, -, -, -, -, h⟩ := mm_ai_inv h; cases h; exact (mm_mo.rf : mm_mo ck S S)
    | lastore => obtain ⟨x, st, -, h⟩ := mm_j_inv h; obtain ⟨i, a, r, t, n, -, -, -, -, h⟩ := mm_ai_inv h; cases h; exact (mm_mo.rf : mm_mo ck S S)
    | aastore => obtain ⟨x, i, a, r, ci, n, -, -, -, -, h, -⟩ := mm_aas_inv h; cases h; exact (mm_mo.rf : mm_mo ck S S)
    | new ix =>
      obtain ⟨k, -, h⟩ := mm_lk_inv h
      rcases mm_cond2_inv h with ⟨-, h⟩ | ⟨-, h⟩
      · obtain ⟨-, h⟩ := mm_al_inv h
        cases h
        exact mm_new_mo S _
      · obtain ⟨-, h⟩ := mm_cond_inv h
        split at h
        · cases h
          exact ⟨by show S.1.length + S.2.2 ≤ S.1.length + (S.2.2 + 1); omega, by show mm_sz ck S.1 + 6 * S.2.2 ≤ mm_sz ck S.1 + 6 * (S.2.2 + 1); omega, by show S.2.2 ≤ S.2.2 + 1; omega⟩
        · cases h
    | newarray t =>
      obtain ⟨n, r, rfl, h⟩ := mm_i_inv h
      obtain ⟨-, h⟩ := mm_al_inv h
      split at h
      · cases h
      · split at h <;> first | (cases h; exact mm_new_mo S _) | (cases h)
    | anewarray ix =>
      obtain ⟨n, r, rfl, h⟩ := mm_i_inv h
      obtain ⟨k, -, h⟩ := mm_lk_inv h
      obtain ⟨-, h⟩ := mm_cond_inv h
      obtain ⟨-, h⟩ := mm_al_inv h
      split at h
      · cases h
      · cases h; exact mm_new_mo S _
    | invokevirtual ix =>
      obtain ⟨k, -, h⟩ := mm_lk_inv h
      obtain ⟨-, h⟩ := mm_cond_inv h
      exact mm_inv_mo hc h
    | invokespecial ix =>
      obtain ⟨k, -, h⟩ := mm_lk_inv h
      rcases mm_cond2_inv h with ⟨-, h⟩ | ⟨-, h⟩
      · exact mm_inv_mo hc (mm_noT_inv h).1
      · obtain ⟨-, h⟩ := mm_cond_inv h
        obtain ⟨a, r, rfl, h⟩ := mm_r_inv h
        obtain ⟨-, h⟩ := mm_cond_inv h
        cases h
        exact mm_mo.rf
    | invokestatic ix =>
      obtain ⟨k, -, h⟩ := mm_lk_inv h
      rcases mm_cond2_inv h with ⟨-, h⟩ | ⟨-, h⟩
      · exact mm_invS_mo hc h
      · obtain ⟨-, h⟩ := mm_cond_inv h
        exact mm_invS_mo hc (mm_noT_inv h).1
    | ireturn =>
      have h : mm_rI me S st = some r0 := h
      unfold mm_rI at h
      split at h
      · split at h
        · cases h; exact mm_mo.rf
        · split at h
          · cases h; exact mm_mo.rf
          · cases h
        · split at h
          · cases h; exact mm_mo.rf
          · cases h
      · cases h
    | lreturn =>
      have h : mm_rJ S st = some r0 := h
      unfold mm_rJ at h
      split at h
      · cases h; exact mm_mo.rf
      · cases h
    | dreturn =>
      have h : mm_rD S st = some r0 := h
      unfold mm_rD at h
      split at h
      · cases h; exact mm_mo.rf
      · cases h
    | areturn =>
      have h : mm_rA S st = some r0 := h
      unfold mm_rA at h
      split at h
      · cases h; exact mm_mo.rf
      · cases h; exact mm_mo.rf
      · cases h
    | return_ =>
      have h : mm_rV S st = some r0 := h
      unfold mm_rV at h
      split at h
      · cases h; exact mm_mo.rf
      · cases h
    | _ => first | (exact absurd rfl hp) | (cases h)
end MO
