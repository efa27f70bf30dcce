section SIMU
variable {p : Program} {l : Launch} {e : Env} {R : Room} {s : State} {m : MethodId} {args : Array Value} {below : List Frame} {meth : Method} {c : Code} {Q : State → Prop} {H : Heap} {locs : List Loc} {cells slots : Nat} {ls : Array Slot}
variable {D : va_G} {cl : List vw_C} {tys : List (ClassId × FieldType)} {ck : Nat → List Nat} {ct : Nat → Nat → FieldType} {ak : Nat → FieldType} {dA : Nat → ClassId} {B b Ls pc : Nat} {xs : Nat → Int32} {TT : List Cond} {strs : List (String × Nat × String)} {nc : List (String × String)} {me : mm_Me} {L : mm_L} {st : List Value} {S S0 : mm_St} {z' : mm_Z} {ex : Nat → String} {mc ms : Nat}
variable {call : Nat → List Value → mm_St → Option mm_O} {yj : Nat → MethodName} {cw : Nat → Cond} {d : Nat} {y : MethodName} {bytes : ByteArray} {ret : Option FieldType}
set_option maxHeartbeats 4000000 in
set_option maxRecDepth 100000 in
theorem mm_stepE {o : mm_O} (hTB : mm_TB cl ck ct ak TT) (hM : mm_MOK cl ak TT strs ex yj cw y bytes ret me) (hF : mm_FR p l R s m args meth c D cl tys ak dA TT strs nc B b Ls xs S0 d y bytes ret me.nL) (hCt : mm_Ct l D cl tys TT strs nc B b Ls xs ck ak dA ex yj cw d call) (hh : me.hs = []) (hRc : mc ≤ R.cells) (hRs : ms ≤ R.slots) (hmc : mm_co S0 + mc = mm_co o.2) (hms : mm_sl ck S0 + ms = mm_sl ck o.2)
    (h : mm_step call xs Ls ck ak me (pc, L, st, S) = some (.inr o)) : mm_J p l e R s m args below meth c (mm_E below args s D cl B b ck ak dA ex o mc ms) B b me.nL (mm_Rz D cl ck ak dA B b s.heap S0) (pc, L, st, S) := by
  obtain ⟨hCK, hO, hTT, a0, a1, a2, a3, a4⟩ := hTB
  obtain ⟨X, hK, hT, hE, hB, hex, hret, hlocks, hname, hexc, hl, hRf, hRl, hRb⟩ := hF
  have hX := X
  obtain ⟨hx, hb, hml, hown, hts⟩ := X
  unfold mm_step at h
  split at h
  next i hdec =>
    obtain ⟨i, n⟩ := i
    obtain ⟨hd0, hd1, ht, hsti, hsw, hI⟩ := hM pc i n hdec
    have hd : mm_len i ≠ 0 → decode bytes pc = .ok (i, mm_len i) := fun q => by rw [← hd1 q]; exact hd0
    have h : mm_do call xs Ls ck ak me pc L st S i = some (.inr o) := h
    by_cases hp : mm_isP i = true
    · obtain ⟨z9, hz9, -⟩ := mm_pure_S i hp h
      cases hz9
    · cases i with
      | ldc ix =>
        obtain ⟨k, hk, h⟩ := mm_lk_inv h
        obtain ⟨hq, h⟩ := mm_cond_inv h
        cases h
      | ldc2_w ix =>
        obtain ⟨k, hk, h⟩ := mm_lk_inv h
        rcases mm_cond2_inv h with ⟨hq, h⟩ | ⟨-, h⟩
        · cases h
        · obtain ⟨hq, h⟩ := mm_cond_inv h
          cases h
      | getfield ix =>
        obtain ⟨k, hk, h⟩ := mm_lk_inv h
        obtain ⟨hq, h⟩ := mm_cond_inv h
        unfold mm_getf at h
        split at h
        · split at h
          · obtain ⟨-, h⟩ := mm_cond_inv h
            split at h <;> cases h
          · cases h
        · cases h
      | putfield ix =>
        obtain ⟨k, hk, h⟩ := mm_lk_inv h
        obtain ⟨hq, h⟩ := mm_cond_inv h
        unfold mm_putf at h
        split at h
        · split at h
          · obtain ⟨-, h⟩ := mm_cond_inv h
            split at h
            · unfold mm_putv at h
              split at h
              · split at h <;> cases h
              · split at h <;> cases h
              · split at h <;> cases h
              · split at h <;> cases h
              · split at h
                · split at h <;> cases h
                · cases h
              · cases h
            · cases h
          · cases h
        · cases h
      | arraylength =>
        obtain ⟨v, r, rfl, h⟩ := mm_1_inv h
        cases v with
        | retAddr w => cases h
        | ref a =>
          have h : (match S.1[a]? with
            | some (.inr (_, n)) => mm_go (pc + 1) L (.int (Int32.ofNat n) :: r) S
            | _ => none) = some (.inr o) := h
          split at h <;> cases h
        | _ => cases h
      | iaload =>
        have h : mm_ial xs Ls ak pc L S st = some (.inr o) := h
        unfold mm_ial at h
        split at h
        · obtain ⟨-, h⟩ := mm_ix_inv h
          cases h
        · obtain ⟨i, a, r, t, n, -, -, -, -, h⟩ := mm_ai_inv h
          cases h
      | caload => obtain ⟨i, a, r, t, n, -, -, -, -, h⟩ := mm_ai_inv h; cases h
      | baload => obtain ⟨i, a, r, t, n, -, -, -, -, h⟩ := mm_ai_inv h; cases h
      | daload => obtain ⟨i, a, r, t, n, -, -, -, -, h⟩ := mm_ai_inv h; cases h
      | laload => obtain ⟨i, a, r, t, n, -, -, -, -, h⟩ := mm_ai_inv h; cases h
      | aaload => obtain ⟨i, a, r, t, n, -, -, -, -, h⟩ := mm_ai_inv h; cases h
      | iastore => obtain ⟨x, st, -, h⟩ := mm_i_inv h; obtain ⟨i, a, r, t, n, -, -, -, -, h⟩ := mm_ai_inv h; cases h
      | castore => obtain ⟨x, st, -, h⟩ := mm_i_inv h; obtain ⟨i, a, r, t, n, -, -, -, -, h⟩ := mm_ai_inv h; cases h
      | bastore => obtain ⟨x, st, -, h⟩ := mm_i_inv h; obtain ⟨i, a, r, t, n, -, -, -, -, h⟩ := mm_ai_inv h; cases h
      | dastore => obtain ⟨x, st, -, h⟩ := mm_d_inv h; obtain ⟨i, a, r, t, n, -, -, -, -, h⟩ := mm_ai_inv h; cases h
      | lastore => obtain ⟨x, st, -, h⟩ := mm_j_inv h; obtain ⟨i, a, r, t, n, -, -, -, -, h⟩ := mm_ai_inv h; cases h
      | aastore => obtain ⟨x, i, a, r, ci, n, -, -, -, -, h, -⟩ := mm_aas_inv h; cases h
      | new ix =>
        obtain ⟨k, hk, h⟩ := mm_lk_inv h
        rcases mm_cond2_inv h with ⟨hq, h⟩ | ⟨-, h⟩
        · obtain ⟨h0, h⟩ := mm_al_inv h
          cases h
        · obtain ⟨hq, h⟩ := mm_cond_inv h
          rw [hh] at h
          rw [Bool.and_eq_true] at hq
          obtain ⟨is, ic, text, names, hth⟩ := (hI k hk).2 (Nat.eq_of_beq_eq_true hq.1)
          cases h
          exact mm_k_throw hX hl hTT hE hth hexc hlocks (Nat.le_of_ble_eq_true hq.2) (by omega) (by omega) hRc hRs (by rw [hmc]; show S.1.length + (S.2.2 + 1) = S.1.length + S.2.2 + 1; omega) (by rw [hms]; show mm_sz ck S.1 + 6 * (S.2.2 + 1) = mm_sz ck S.1 + 6 * S.2.2 + 6; omega)
      | newarray t =>
        obtain ⟨n9, r, rfl, h⟩ := mm_i_inv h
        obtain ⟨h0, h⟩ := mm_al_inv h
        split at h
        · cases h
        · split at h <;> cases h
      | anewarray ix =>
        obtain ⟨n9, r, rfl, h⟩ := mm_i_inv h
        obtain ⟨k, hk, h⟩ := mm_lk_inv h
        obtain ⟨hq, h⟩ := mm_cond_inv h
        obtain ⟨h0, h⟩ := mm_al_inv h
        split at h <;> cases h
      | invokevirtual ix =>
        obtain ⟨k, hk, h⟩ := mm_lk_inv h
        obtain ⟨hq, h⟩ := mm_cond_inv h
        obtain ⟨bt, mL, rt, e1, e2, e3⟩ := hI k hk (Nat.eq_of_beq_eq_true hq)
        exact mm_k_invT hX hK hTT hE hB hex hCt rfl e1 e2 e3 hRb hRf hRl hRc hRs hmc hms hexc hlocks (hd (by simp [mm_len])) hh h
      | invokespecial ix =>
        obtain ⟨k, hk, h⟩ := mm_lk_inv h
        rcases mm_cond2_inv h with ⟨hq, h⟩ | ⟨-, h⟩
        · obtain ⟨-, z9, hz9⟩ := mm_noT_inv h
          cases hz9
        · obtain ⟨hq, h⟩ := mm_cond_inv h
          obtain ⟨a, r, rfl, h⟩ := mm_r_inv h
          obtain ⟨hw, h⟩ := mm_cond_inv h
          cases h
      | invokestatic ix =>
        obtain ⟨k, hk, h⟩ := mm_lk_inv h
        rcases mm_cond2_inv h with ⟨hq, h⟩ | ⟨-, h⟩
        · obtain ⟨bt, mL, rt, e1, e2, e3, e4⟩ := (hI k hk).1 (Nat.eq_of_beq_eq_true hq)
          exact mm_k_invST hX hK hTT hE hB hex hCt rfl e1 e2 ⟨e3, e4⟩ hRb hRf hRl hRc hRs hmc hms hexc hlocks (hd (by simp [mm_len])) hh h
        · obtain ⟨hq, h⟩ := mm_cond_inv h
          obtain ⟨-, z9, hz9⟩ := mm_noT_inv h
          cases hz9
      | ireturn =>
        have hI : ret = some (match me.rk with
          | 0 => .int
          | 1 => .char
          | _ => .boolean) := hI
        have h : mm_rI me S st = some (.inr o) := h
        unfold mm_rI at h
        split at h
        next x =>
          split at h
          next hk =>
            cases h
            rw [hk] at hI
            exact mm_k_ireturn hX (hret.trans hI) rfl hlocks hmc hms (hd (by simp [mm_len]))
          next hk =>
            split at h
            next hc =>
              cases h
              rw [hk] at hI
              refine mm_k_ireturn hX (hret.trans hI) ?_ hlocks hmc hms (hd (by simp [mm_len]))
              rw [← hc]
              exact pk_nc _
            next => cases h
          next hk1 hk2 =>
            split at h
            next hc =>
              cases h
              have hI2 : ret = some .boolean := by
                rw [hI]
                split
                · exact absurd ‹_› hk1
                · exact absurd ‹_› hk2
                · rfl
              refine mm_k_ireturn hX (hret.trans hI2) ?_ hlocks hmc hms (hd (by simp [mm_len]))
              rcases hc with rfl | rfl <;> rfl
            next => cases h
        next => cases h
      | lreturn =>
        have h : mm_rJ S st = some (.inr o) := h
        unfold mm_rJ at h
        split at h
        · cases h; exact mm_k_lreturn hX (hret.trans hI) hlocks hmc hms (hd (by simp [mm_len]))
        · cases h
      | dreturn =>
        have h : mm_rD S st = some (.inr o) := h
        unfold mm_rD at h
        split at h
        · cases h; exact mm_k_dreturn hX (hret.trans hI) hlocks hmc hms (hd (by simp [mm_len]))
        · cases h
      | areturn =>
        obtain ⟨rt, hrt, hrt2⟩ := hI
        have h : mm_rA S st = some (.inr o) := h
        unfold mm_rA at h
        split at h
        · cases h; exact mm_k_areturn (Or.inr ⟨_, rfl⟩) hX (hret.trans hrt) hrt2 hlocks hmc hms (hd (by simp [mm_len]))
        · cases h; exact mm_k_areturn (Or.inl rfl) hX (hret.trans hrt) hrt2 hlocks hmc hms (hd (by simp [mm_len]))
        · cases h
      | return_ =>
        have h : mm_rV S st = some (.inr o) := h
        unfold mm_rV at h
        split at h
        · cases h; exact mm_k_return hX (hret.trans hI) hlocks hmc hms (hd (by simp [mm_len]))
        · cases h
      | _ => first | (exact absurd rfl hp) | (cases h)
  next => cases h
/-- a whole method, from its entry -/
theorem mm_walk {o : mm_O} (hTB : mm_TB cl ck ct ak TT) (hM : mm_MOK cl ak TT strs ex yj cw y bytes ret me) (hF : mm_FR p l R s m args meth c D cl tys ak dA TT strs nc B b Ls xs S0 d y bytes ret me.nL) (hCt : mm_Ct l D cl tys TT strs nc B b Ls xs ck ak dA ex yj cw d call) (hh : me.hs = []) (hRc : mc ≤ R.cells) (hRs : ms ≤ R.slots) (hmc : mm_co S0 + mc = mm_co o.2) (hms : mm_sl ck S0 + ms = mm_sl ck o.2) :
    ∀ (n : Nat) (z : mm_Z), mm_ex (mm_step call xs Ls ck ak me) n z = some o → mm_mo ck z.2.2.2 o.2 ∧ mm_J p l e R s m args below meth c (mm_E below args s D cl B b ck ak dA ex o mc ms) B b me.nL (mm_Rz D cl ck ak dA B b s.heap S0) z := by
  have hcm : ∀ j as S o, call j as S = some o → mm_mo ck S o.2 := fun j as S o h => ⟨(hCt j as S o h).1, (hCt j as S o h).2.1, (hCt j as S o h).2.2.1⟩
  intro n
  induction n with
  | zero => intro z h; cases h
  | succ n ih =>
    intro z h
    obtain ⟨pc, L, st, S⟩ := z
    have hmo : ∀ r, mm_step call xs Ls ck ak me (pc, L, st, S) = some r → mm_mo ck S (mm_rS r) := by
      intro r hr
      unfold mm_step at hr
      split at hr
      · exact mm_do_mo hcm _ hr
      · cases hr
    cases hz : mm_step call xs Ls ck ak me (pc, L, st, S) with
    | none =>
      rw [show mm_ex (mm_step call xs Ls ck ak me) (n + 1) (pc, L, st, S) = none by
        show (match mm_step call xs Ls ck ak me (pc, L, st, S) with
          | some (.inl z') => mm_ex (mm_step call xs Ls ck ak me) n z'
          | some (.inr o) => some o
          | none => none) = _
        rw [hz]] at h
      cases h
    | some r =>
      cases r with
      | inl z' =>
        rw [mm_ex_go hz] at h
        obtain ⟨h1, h2⟩ := ih z' h
        have h3 := hmo _ hz
        refine ⟨h3.tr h1, mm_stepJ hTB hM hF hCt hh ?_ ?_ hz h2⟩
        · have := h1.1
          omega
        · have := h1.2.1
          omega
      | inr o' =>
        rw [mm_ex_end hz] at h
        cases h
        exact ⟨hmo _ hz, mm_stepE hTB hM hF hCt hh hRc hRs hmc hms hz⟩
end SIMU
