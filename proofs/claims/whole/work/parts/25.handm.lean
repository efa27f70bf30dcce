/-! A METHOD WITH HANDLERS MEETS ITS CONTRACT -/
/-- the instructions of such a method -/
def mm_isH (i : Instr) : Bool := mm_isP i || (match i with
  | .lastore | .dastore | .ireturn => true
  | .invokevirtual _ => true
  | _ => false)
theorem mm_hs_inl {me : mm_Me} {pc E : Nat} {L : mm_L} {S : mm_St} {o : mm_O} (hs : List (Nat × Nat × Nat × Nat)) : mm_hs me pc L E S hs ≠ some (.inr o) := by
  induction hs with
  | nil => intro h; cases h
  | cons q hs ih =>
    intro h
    obtain ⟨a, b, t, ix⟩ := q
    unfold mm_hs at h
    rcases mm_cond2_inv h with ⟨-, h⟩ | ⟨-, h⟩
    · split at h
      · rcases mm_cond2_inv h with ⟨-, h⟩ | ⟨-, h⟩
        · split at h <;> cases h
        · exact ih h
      · cases h
    · exact ih h
section HANDM
variable {p : Program} {l : Launch} {e : Env} {R : Room} {s : State} {m : MethodId} {args : Array Value} {below : List Frame} {meth : Method} {c : Code} {Q : State → Prop} {H : Heap} {locs : List Loc} {cells slots : Nat} {ls : Array Slot}
variable {D : va_G} {cl : List vw_C} {tys : List (ClassId × FieldType)} {ck : Nat → List Nat} {ct : Nat → Nat → FieldType} {ak : Nat → FieldType} {dA : Nat → ClassId} {B b Ls pc : Nat} {xs : Nat → Int32} {TT : List Cond} {strs : List (String × Nat × String)} {nc : List (String × String)} {me : mm_Me} {L : mm_L} {st : List Value} {S S0 : mm_St} {z' : mm_Z} {ex : Nat → String} {mc ms : Nat}
variable {call : Nat → List Value → mm_St → Option mm_O} {yj : Nat → MethodName} {cw : Nat → Cond} {d : Nat} {y : MethodName} {bytes : ByteArray} {ret : Option FieldType}
def mm_FRH (p : Program) (l : Launch) (R : Room) (s : State) (m : MethodId) (args : Array Value) (meth : Method) (c : Code) (D : va_G) (cl : List vw_C) (tys : List (ClassId × FieldType)) (ak : Nat → FieldType) (dA : Nat → ClassId) (TT : List Cond) (strs : List (String × Nat × String)) (nc : List (String × String)) (B b Ls : Nat) (xs : Nat → Int32) (S0 : mm_St) (d : Nat) (y : MethodName) (bytes : ByteArray) (ret : Option FieldType) (me : mm_Me) : Prop :=
  CallFix p m c bytes me.nL s args TT y.cls ∧ va_K D cl tys s ∧ mm_AT tys ak dA ∧ mm_Env D cl tys TT strs nc B b Ls xs s ∧ B ≤ s.heap.size ∧ (S0.2.2 = 0 → s.heap.size = B + S0.1.length) ∧ meth.sig.returnType = ret ∧ meth.locks = false ∧ c.exceptionTable.toList.map (fun h => (h.startPc, h.endPc, h.handlerPc, h.catchType)) = me.hs ∧ d + 9 ≤ R.frames ∧ 40 * d + 240 ≤ R.locals ∧ R.slots ≤ 60000000
theorem mm_walkH {o : mm_O} (hTB : mm_TB cl ck ct ak TT) (hM : mm_MOK cl ak TT strs ex yj cw y bytes ret me) (hall : ∀ (pc : Nat) (i : Instr) (n : Nat), me.dec[pc]? = some (some (i, n)) → mm_isH i = true) (hne : me.hs ≠ []) (hrk : me.rk = 0) (hok : mm_HOK TT nc ex y.cls me) (hF : mm_FRH p l R s m args meth c D cl tys ak dA TT strs nc B b Ls xs S0 d y bytes ret me) (hCt : mm_Ct l D cl tys TT strs nc B b Ls xs ck ak dA ex yj cw d call) (hRc : mc ≤ R.cells) (hRs : ms ≤ R.slots) (hmc : mm_co S0 + mc = mm_co o.2) (hms : mm_sl ck S0 + ms = mm_sl ck o.2) :
    ∀ (n : Nat) (z : mm_Z), mm_ex (mm_step call xs Ls ck ak me) n z = some o → mm_mo ck z.2.2.2 o.2 ∧ mm_J p l e R s m args below meth c (mm_E below args s D cl B b ck ak dA ex o mc ms) B b me.nL (mm_Rz D cl ck ak dA B b s.heap S0) z := by
  have hcm : ∀ j as S o, call j as S = some o → mm_mo ck S o.2 := fun j as S o h => ⟨(hCt j as S o h).1, (hCt j as S o h).2.1, (hCt j as S o h).2.2.1⟩
  obtain ⟨hCK, hO, hTT, a0, a1, a2, a3, a4⟩ := hTB
  obtain ⟨X, hK, hT, hE, hB, hex, hret, hlocks, htab, hRf, hRl, hRb⟩ := hF
  have hX := X
  obtain ⟨hx, hb, hml, hown, hts⟩ := X
  intro n
  induction n with
  | zero => intro z h; cases h
  | succ n ih =>
    intro z h
    obtain ⟨pc, L, st, S⟩ := z
    have hmo : ∀ r, mm_step call xs Ls ck ak me (pc, L, st, S) = some r → mm_mo ck S (mm_rS r) := by
      intro r hr
      unfold mm_step at hr
      split at hr
      · exact mm_do_mo hcm _ hr
      · cases hr
    cases hz : mm_step call xs Ls ck ak me (pc, L, st, S) with
    | none =>
      rw [show mm_ex (mm_step call xs Ls ck ak me) (n + 1) (pc, L, st, S) = none by
        show (match mm_step call xs Ls ck ak me (pc, L, st, S) with
          | some (.inl z') => mm_ex (mm_step call xs Ls ck ak me) n z'
          | some (.inr o) => some o
          | none => none) = _
        rw [hz]] at h
      cases h
    | some r =>
      have h3 := hmo _ hz
      unfold mm_step at hz
      split at hz
      next i hdec =>
        obtain ⟨i, n9⟩ := i
        obtain ⟨hd0, hd1, ht, hsti, hsw, hI⟩ := hM pc i n9 hdec
        have hd : mm_len i ≠ 0 → decode bytes pc = .ok (i, mm_len i) := fun q => by rw [← hd1 q]; exact hd0
        have hH := hall pc i n9 hdec
        have hz : mm_do call xs Ls ck ak me pc L st S i = some r := hz
        have hstep : mm_step call xs Ls ck ak me (pc, L, st, S) = some r := by
          unfold mm_step
          rw [show me.dec[(pc, L, st, S).1]? = some (some (i, n9)) from hdec]
          exact hz
        cases r with
        | inl z' =>
          rw [mm_ex_go hstep] at h
          obtain ⟨h1, h2⟩ := ih z' h
          refine ⟨h3.tr h1, ?_⟩
          have b1 : mm_co z'.2.2.2 ≤ mm_co S0 + R.cells := by have := h1.1; omega
          have b2 : mm_sl ck z'.2.2.2 ≤ mm_sl ck S0 + R.slots := by have := h1.2.1; omega
          by_cases hp : mm_isP i = true
          · exact mm_pure hx hb i ⟨n9, hd0⟩ hd ht hsti hsw hp hz h2
          · cases i with
            | lastore => exact mm_k_last hX hK hT (hd (by simp [mm_len])) hz h2
            | dastore => exact mm_k_dast hX hK hT (hd (by simp [mm_len])) hz h2
            | invokevirtual ix =>
              obtain ⟨k, hk, hz⟩ := mm_lk_inv hz
              obtain ⟨hq, hz⟩ := mm_cond_inv hz
              obtain ⟨bt, mL, rt, e1, e2, e3⟩ := hI k hk (Nat.eq_of_beq_eq_true hq)
              exact mm_k_invH hX hK hTT hE hB hex hCt rfl e1 e2 e3 hRb hRf hRl b1 b2 (hd (by simp [mm_len])) (fun pc i n q => by obtain ⟨q1, q2, -, q3, -⟩ := hM pc i n q; exact ⟨q1, q2, q3⟩) hne htab hok hz h2
            | ireturn =>
              have hz : mm_rI me S st = some (.inl z') := hz
              unfold mm_rI at hz
              rw [hrk] at hz
              split at hz <;> cases hz
            | _ => first | (exact absurd rfl hp) | (cases hH)
        | inr o' =>
          rw [mm_ex_end hstep] at h
          cases h
          refine ⟨h3, ?_⟩
          by_cases hp : mm_isP i = true
          · obtain ⟨z9, hz9, -⟩ := mm_pure_S i hp hz
            cases hz9
          · cases i with
            | lastore => obtain ⟨x, st, -, hz⟩ := mm_j_inv hz; obtain ⟨i, a, r, t, n, -, -, -, -, hz⟩ := mm_ai_inv hz; cases hz
            | dastore => obtain ⟨x, st, -, hz⟩ := mm_d_inv hz; obtain ⟨i, a, r, t, n, -, -, -, -, hz⟩ := mm_ai_inv hz; cases hz
            | invokevirtual ix =>
              obtain ⟨k, hk, hz⟩ := mm_lk_inv hz
              obtain ⟨hq, hz⟩ := mm_cond_inv hz
              obtain ⟨as, a, rest, -, -, -, -, hz⟩ := mm_inv_inv hz
              unfold mm_back at hz
              split at hz
              next => cases hz
              next => cases hz
              next E S' hcall =>
                split at hz
                next hnil => exact absurd hnil hne
                next h0 hs0 heq =>
                  obtain ⟨-, hz⟩ := mm_cond_inv hz
                  exact absurd hz (mm_hs_inl _)
            | ireturn =>
              have hI : ret = some (match me.rk with
                | 0 => .int
                | 1 => .char
                | _ => .boolean) := hI
              have hz : mm_rI me S st = some (.inr o) := hz
              unfold mm_rI at hz
              rw [hrk] at hz hI
              split at hz
              · cases hz
                exact mm_k_ireturn hX (hret.trans hI) rfl hlocks hmc hms (hd (by simp [mm_len]))
              · cases hz
            | _ => first | (exact absurd rfl hp) | (cases hH)
      next => cases hz
end HANDM
