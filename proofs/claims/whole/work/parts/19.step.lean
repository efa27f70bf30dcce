/-! ONE STEP, FOR METHODS WITHOUT HANDLERS -/
/-- an instruction's links are as the tables have them -/
def mm_IOK (cl : List vw_C) (ak : Nat → FieldType) (TT : List Cond) (strs : List (String × Nat × String)) (ex : Nat → String) (yj : Nat → MethodName) (cw : Nat → Cond) (y : MethodName) (bytes : ByteArray) (ret : Option FieldType) (me : mm_Me) (pc : Nat) (i : Instr) : Prop := match i with
  | .ldc ix => ∀ k, me.lk ix = some k → k.1 = 6 → Cond.constant y.cls ix (Int32.ofNat k.2.1) ∈ TT
  | .ldc2_w ix => ∀ k, me.lk ix = some k → (k.1 = 7 → Cond.constantLong y.cls ix (Int64.ofNat k.2.1) ∈ TT) ∧ (k.1 = 8 → Cond.constantDouble y.cls ix (UInt64.ofNat k.2.1) ∈ TT)
  | .getfield ix => ∀ k, me.lk ix = some k → k.1 = 0 → ∃ C T N, mm_FL cl TT y.cls ix k.2.1 k.2.2.1 C T N
  | .putfield ix => ∀ k, me.lk ix = some k → k.1 = 0 → ∃ C T N, mm_FL cl TT y.cls ix k.2.1 k.2.2.1 C T N ∧ ((T k.2.2.1).2.2.2 = false ∨ (y.name = "<init>" ∧ (T k.2.2.1).1 = y.cls))
  | .new ix => ∀ k, me.lk ix = some k → (k.1 = 4 → ∃ C T N, cl[k.2.1]? = some (C, T, N) ∧ Cond.classLink y.cls ix C ∈ TT ∧ Cond.instantiable C N ∈ TT ∧ Cond.initialized C ∈ TT) ∧ (k.1 = 5 → ∃ is ic text names, mm_TH TT strs bytes y.cls (ex k.2.1) pc ix is ic text names)
  | .newarray t => Cond.arrayClass (newarray.typeOf t) ∈ TT
  | .anewarray ix => ∀ k, me.lk ix = some k → k.1 = 4 → ∃ C, ak (10 + k.2.1) = .object C ∧ Cond.classLink y.cls ix C ∈ TT ∧ Cond.arrayOver (.object C) ∈ TT
  | .invokevirtual ix => ∀ k, me.lk ix = some k → k.1 = 1 → ∃ bt mL rt, cw k.2.1 = .code (yj k.2.1) bt mL rt ∧ mm_CE TT (yj k.2.1) bt mL k.2.2.1 rt ∧ mm_ML TT cl y.cls ix k.2.2.2 (yj k.2.1)
  | .invokespecial ix => ∀ k, me.lk ix = some k → (k.1 = 10 → ∃ bt mL, cw k.2.1 = .code (yj k.2.1) bt mL none ∧ mm_CE TT (yj k.2.1) bt mL k.2.2.1 none ∧ Cond.methodLink y.cls ix (yj k.2.1) ∈ TT ∧ Cond.instanceMethod (yj k.2.1) ∈ TT ∧ (yj k.2.1).name = "<init>") ∧ (k.1 = 3 → Cond.methodLink y.cls ix Lib.objectInit ∈ TT ∧ Cond.instanceMethod Lib.objectInit ∈ TT ∧ Cond.code Lib.objectInit ⟨#[0xb1]⟩ 1 none ∈ TT)
  | .invokestatic ix => ∀ k, me.lk ix = some k → (k.1 = 2 → ∃ bt mL rt, cw k.2.1 = .code (yj k.2.1) bt mL rt ∧ mm_CE TT (yj k.2.1) bt mL k.2.2.1 rt ∧ Cond.methodLink y.cls ix (yj k.2.1) ∈ TT ∧ Cond.static (yj k.2.1) ∈ TT) ∧ (k.1 = 14 → ∃ bt mL rt hh, cw k.2.1 = .codeWith (yj k.2.1) bt mL rt hh ∧ mm_CEW TT (yj k.2.1) bt mL k.2.2.1 rt hh ∧ Cond.methodLink y.cls ix (yj k.2.1) ∈ TT ∧ Cond.static (yj k.2.1) ∈ TT)
  | .ireturn => ret = some (match me.rk with
    | 0 => .int
    | 1 => .char
    | _ => .boolean)
  | .lreturn => ret = some .long
  | .dreturn => ret = some .double
  | .areturn => ∃ rt, ret = some rt ∧ ((∃ n, rt = .object n) ∨ ∃ t, rt = .array t)
  | .return_ => ret = none
  | _ => True
/-- a method's code -/
def mm_MOK (cl : List vw_C) (ak : Nat → FieldType) (TT : List Cond) (strs : List (String × Nat × String)) (ex : Nat → String) (yj : Nat → MethodName) (cw : Nat → Cond) (y : MethodName) (bytes : ByteArray) (ret : Option FieldType) (me : mm_Me) : Prop :=
  ∀ pc i n, me.dec[pc]? = some (some (i, n)) → decode bytes pc = .ok (i, n) ∧ (mm_len i ≠ 0 → n = mm_len i) ∧ (∀ o ∈ mm_offs i, 0 ≤ (pc : Int) + o) ∧ mm_sti i ≤ me.nL ∧ mm_swok i = true ∧ mm_IOK cl ak TT strs ex yj cw y bytes ret me pc i
section STEP
variable {p : Program} {l : Launch} {e : Env} {R : Room} {s : State} {m : MethodId} {args : Array Value} {below : List Frame} {meth : Method} {c : Code} {Q : State → Prop} {H : Heap} {locs : List Loc} {cells slots : Nat} {ls : Array Slot}
variable {D : va_G} {cl : List vw_C} {tys : List (ClassId × FieldType)} {ck : Nat → List Nat} {ct : Nat → Nat → FieldType} {ak : Nat → FieldType} {dA : Nat → ClassId} {B b Ls pc : Nat} {xs : Nat → Int32} {TT : List Cond} {strs : List (String × Nat × String)} {nc : List (String × String)} {me : mm_Me} {L : mm_L} {st : List Value} {S S0 : mm_St} {z' : mm_Z} {ex : Nat → String} {mc ms : Nat}
variable {call : Nat → List Value → mm_St → Option mm_O} {yj : Nat → MethodName} {cw : Nat → Cond} {d : Nat} {y : MethodName} {bytes : ByteArray} {ret : Option FieldType}
/-- the tables and the start, as every frame has them -/
def mm_TB (cl : List vw_C) (ck : Nat → List Nat) (ct : Nat → Nat → FieldType) (ak : Nat → FieldType) (TT : List Cond) : Prop :=
  mm_CK cl ck ct TT ∧ mm_AO cl ak ∧ (∀ w ∈ TT, mm_wd w = true) ∧ ak 0 = .int ∧ ak 1 = .char ∧ ak 2 = .double ∧ ak 3 = .long ∧ ak 4 = .boolean
/-- a frame of method y -/
def mm_FR (p : Program) (l : Launch) (R : Room) (s : State) (m : MethodId) (args : Array Value) (meth : Method) (c : Code) (D : va_G) (cl : List vw_C) (tys : List (ClassId × FieldType)) (ak : Nat → FieldType) (dA : Nat → ClassId) (TT : List Cond) (strs : List (String × Nat × String)) (nc : List (String × String)) (B b Ls : Nat) (xs : Nat → Int32) (S0 : mm_St) (d : Nat) (y : MethodName) (bytes : ByteArray) (ret : Option FieldType) (nL : Nat) : Prop :=
  CallFix p m c bytes nL s args TT y.cls ∧ va_K D cl tys s ∧ mm_AT tys ak dA ∧ mm_Env D cl tys TT strs nc B b Ls xs s ∧ B ≤ s.heap.size ∧ (S0.2.2 = 0 → s.heap.size = B + S0.1.length) ∧ meth.sig.returnType = ret ∧ meth.locks = false ∧ meth.name = y.name ∧ (∀ x ∈ c.exceptionTable.toList, False) ∧ l.stackTraces = false ∧ d + 9 ≤ R.frames ∧ 40 * d + 240 ≤ R.locals ∧ R.slots ≤ 60000000
set_option maxHeartbeats 4000000 in
set_option maxRecDepth 100000 in
theorem mm_stepJ (hTB : mm_TB cl ck ct ak TT) (hM : mm_MOK cl ak TT strs ex yj cw y bytes ret me) (hF : mm_FR p l R s m args meth c D cl tys ak dA TT strs nc B b Ls xs S0 d y bytes ret me.nL) (hCt : mm_Ct l D cl tys TT strs nc B b Ls xs ck ak dA ex yj cw d call) (hh : me.hs = []) (hRc : mm_co z'.2.2.2 ≤ mm_co S0 + R.cells) (hRs : mm_sl ck z'.2.2.2 ≤ mm_sl ck S0 + R.slots)
    (h : mm_step call xs Ls ck ak me (pc, L, st, S) = some (.inl z')) (kJ : mm_J p l e R s m args below meth c Q B b me.nL (mm_Rz D cl ck ak dA B b s.heap S0) z') : mm_J p l e R s m args below meth c Q B b me.nL (mm_Rz D cl ck ak dA B b s.heap S0) (pc, L, st, S) := by
  obtain ⟨hCK, hO, hTT, a0, a1, a2, a3, a4⟩ := hTB
  obtain ⟨X, hK, hT, hE, hB, hex, hret, hlocks, hname, hexc, hl, hRf, hRl, hRb⟩ := hF
  have hX := X
  obtain ⟨hx, hb, hml, hown, hts⟩ := X
  unfold mm_step at h
  split at h
  next i hdec =>
    obtain ⟨i, n⟩ := i
    obtain ⟨hd0, hd1, ht, hsti, hsw, hI⟩ := hM pc i n hdec
    have hd : mm_len i ≠ 0 → decode bytes pc = .ok (i, mm_len i) := fun q => by rw [← hd1 q]; exact hd0
    have h : mm_do call xs Ls ck ak me pc L st S i = some (.inl z') := h
    by_cases hp : mm_isP i = true
    · exact mm_pure hx hb i ⟨n, hd0⟩ hd ht hsti hsw hp h kJ
    · cases i with
      | ldc ix =>
        obtain ⟨k, hk, h⟩ := mm_lk_inv h
        obtain ⟨hq, h⟩ := mm_cond_inv h
        cases h
        exact mm_k_ldc hX (hI k hk (Nat.eq_of_beq_eq_true hq)) (hd (by simp [mm_len])) kJ
      | ldc2_w ix =>
        obtain ⟨k, hk, h⟩ := mm_lk_inv h
        rcases mm_cond2_inv h with ⟨hq, h⟩ | ⟨-, h⟩
        · cases h
          exact mm_k_ldc2 hX ((hI k hk).1 (Nat.eq_of_beq_eq_true hq)) (hd (by simp [mm_len])) kJ
        · obtain ⟨hq, h⟩ := mm_cond_inv h
          cases h
          exact mm_k_ldc2d hX ((hI k hk).2 (Nat.eq_of_beq_eq_true hq)) (hd (by simp [mm_len])) kJ
      | getfield ix =>
        obtain ⟨k, hk, h⟩ := mm_lk_inv h
        obtain ⟨hq, h⟩ := mm_cond_inv h
        obtain ⟨C, T, N, hFL⟩ := hI k hk (Nat.eq_of_beq_eq_true hq)
        exact mm_k_getf hX hK hCK hFL (hd (by simp [mm_len])) h kJ
      | putfield ix =>
        obtain ⟨k, hk, h⟩ := mm_lk_inv h
        obtain ⟨hq, h⟩ := mm_cond_inv h
        obtain ⟨C, T, N, hFL, hfin⟩ := hI k hk (Nat.eq_of_beq_eq_true hq)
        exact mm_k_putf hX hK hCK hFL (hfin.elim Or.inl (fun q => Or.inr ⟨by rw [hname]; exact q.1, q.2⟩)) (hd (by simp [mm_len])) h kJ
      | arraylength => exact mm_k_alen hX hK hT hE (hd (by simp [mm_len])) h kJ
      | iaload => exact mm_k_iald0 hX hK hT hE (hd (by simp [mm_len])) h kJ
      | caload => exact mm_k_cald hX hK hT (hd (by simp [mm_len])) h kJ
      | baload => exact mm_k_zald hX hK hT (hd (by simp [mm_len])) h kJ
      | daload => exact mm_k_dald hX hK hT (hd (by simp [mm_len])) h kJ
      | laload => exact mm_k_lald hX hK hT (hd (by simp [mm_len])) h kJ
      | aaload => exact mm_k_aald hX hK hT (hd (by simp [mm_len])) h kJ
      | iastore => exact mm_k_iast hX hK hT (hd (by simp [mm_len])) h kJ
      | castore => exact mm_k_cast hX hK hT (hd (by simp [mm_len])) h kJ
      | bastore => exact mm_k_zast hX hK hT (hd (by simp [mm_len])) h kJ
      | dastore => exact mm_k_dast hX hK hT (hd (by simp [mm_len])) h kJ
      | lastore => exact mm_k_last hX hK hT (hd (by simp [mm_len])) h kJ
      | aastore => exact mm_k_aast hX hK hT hO (hd (by simp [mm_len])) h kJ
      | new ix =>
        obtain ⟨k, hk, h⟩ := mm_lk_inv h
        rcases mm_cond2_inv h with ⟨hq, h⟩ | ⟨-, h⟩
        · obtain ⟨C, T, N, hc1, w1, w2, w3⟩ := (hI k hk).1 (Nat.eq_of_beq_eq_true hq)
          obtain ⟨h0, h⟩ := mm_al_inv h
          cases h
          exact mm_k_new hX hK hCK hc1 w1 w2 w3 (hd (by simp [mm_len])) hB hex h0 hRc hRs kJ
        · obtain ⟨-, h⟩ := mm_cond_inv h
          rw [hh] at h
          cases h
      | newarray t =>
        obtain ⟨n9, r, rfl, h⟩ := mm_i_inv h
        obtain ⟨h0, h⟩ := mm_al_inv h
        by_cases hn : n9 < 0
        · have h : (if n9 < 0 then none else match t with
            | .int => mm_go (pc + 2) L (.ref S.1.length :: r) (mm_new S (.inr (0, n9.toNatClampNeg)))
            | .char => mm_go (pc + 2) L (.ref S.1.length :: r) (mm_new S (.inr (1, n9.toNatClampNeg)))
            | .double => mm_go (pc + 2) L (.ref S.1.length :: r) (mm_new S (.inr (2, n9.toNatClampNeg)))
            | .long => mm_go (pc + 2) L (.ref S.1.length :: r) (mm_new S (.inr (3, n9.toNatClampNeg)))
            | .boolean => mm_go (pc + 2) L (.ref S.1.length :: r) (mm_new S (.inr (4, n9.toNatClampNeg)))
            | _ => none) = some (.inl z') := h
          rw [if_pos hn] at h
          cases h
        · have h : (if n9 < 0 then none else match t with
            | .int => mm_go (pc + 2) L (.ref S.1.length :: r) (mm_new S (.inr (0, n9.toNatClampNeg)))
            | .char => mm_go (pc + 2) L (.ref S.1.length :: r) (mm_new S (.inr (1, n9.toNatClampNeg)))
            | .double => mm_go (pc + 2) L (.ref S.1.length :: r) (mm_new S (.inr (2, n9.toNatClampNeg)))
            | .long => mm_go (pc + 2) L (.ref S.1.length :: r) (mm_new S (.inr (3, n9.toNatClampNeg)))
            | .boolean => mm_go (pc + 2) L (.ref S.1.length :: r) (mm_new S (.inr (4, n9.toNatClampNeg)))
            | _ => none) = some (.inl z') := h
          rw [if_neg hn] at h
          cases t with
          | int => cases h; exact mm_k_newa (atype := .int) (t := 0) hX hK hT a0.symm (by rw [a0]; decide) (by rw [a0]; decide) hI (hd (by simp [mm_len])) hB hex h0 hn hRb hRc hRs kJ
          | char => cases h; exact mm_k_newa (atype := .char) (t := 1) hX hK hT a1.symm (by rw [a1]; decide) (by rw [a1]; decide) hI (hd (by simp [mm_len])) hB hex h0 hn hRb hRc hRs kJ
          | double => cases h; exact mm_k_newa (atype := .double) (t := 2) hX hK hT a2.symm (by rw [a2]; decide) (by rw [a2]; decide) hI (hd (by simp [mm_len])) hB hex h0 hn hRb hRc hRs kJ
          | long => cases h; exact mm_k_newa (atype := .long) (t := 3) hX hK hT a3.symm (by rw [a3]; decide) (by rw [a3]; decide) hI (hd (by simp [mm_len])) hB hex h0 hn hRb hRc hRs kJ
          | boolean => cases h; exact mm_k_newa (atype := .boolean) (t := 4) hX hK hT a4.symm (by rw [a4]; decide) (by rw [a4]; decide) hI (hd (by simp [mm_len])) hB hex h0 hn hRb hRc hRs kJ
          | _ => cases h
      | anewarray ix =>
        obtain ⟨n9, r, rfl, h⟩ := mm_i_inv h
        obtain ⟨k, hk, h⟩ := mm_lk_inv h
        obtain ⟨hq, h⟩ := mm_cond_inv h
        obtain ⟨C, hC, w1, w2⟩ := hI k hk (Nat.eq_of_beq_eq_true hq)
        obtain ⟨h0, h⟩ := mm_al_inv h
        have h : (if n9 < 0 then none else mm_go (pc + 3) L (.ref S.1.length :: r) (mm_new S (.inr (10 + k.2.1, n9.toNatClampNeg)))) = some (.inl z') := h
        by_cases hn : n9 < 0
        · rw [if_pos hn] at h; cases h
        · rw [if_neg hn] at h
          cases h
          exact mm_k_newq hX hK hT hC w1 (va_AO.of (hts _ w2)) (hd (by simp [mm_len])) hB hex h0 hn hRb hRc hRs kJ
      | invokevirtual ix =>
        obtain ⟨k, hk, h⟩ := mm_lk_inv h
        obtain ⟨hq, h⟩ := mm_cond_inv h
        obtain ⟨bt, mL, rt, e1, e2, e3⟩ := hI k hk (Nat.eq_of_beq_eq_true hq)
        exact mm_k_inv hX hK hTT hE hB hex hCt rfl e1 e2 e3 hRb hRf hRl hRc hRs (hd (by simp [mm_len])) hh h kJ
      | invokespecial ix =>
        obtain ⟨k, hk, h⟩ := mm_lk_inv h
        rcases mm_cond2_inv h with ⟨hq, h⟩ | ⟨-, h⟩
        · obtain ⟨bt, mL, e1, e2, e3, e4, e5⟩ := (hI k hk).1 (Nat.eq_of_beq_eq_true hq)
          exact mm_k_invI hX hK hTT hE hB hex hCt rfl e1 e2 ⟨e3, e4, e5⟩ hRb hRf hRl hRc hRs (hd (by simp [mm_len])) hh (mm_noT_inv h).1 kJ
        · obtain ⟨hq, h⟩ := mm_cond_inv h
          obtain ⟨e1, e2, e3⟩ := (hI k hk).2 (Nat.eq_of_beq_eq_true hq)
          obtain ⟨a, r, rfl, h⟩ := mm_r_inv h
          obtain ⟨hw, h⟩ := mm_cond_inv h
          cases h
          exact mm_k_obj hX e1 e2 e3 (by omega) (by omega) (Nat.le_of_ble_eq_true hw) (hd (by simp [mm_len])) kJ
      | invokestatic ix =>
        obtain ⟨k, hk, h⟩ := mm_lk_inv h
        rcases mm_cond2_inv h with ⟨hq, h⟩ | ⟨-, h⟩
        · obtain ⟨bt, mL, rt, e1, e2, e3, e4⟩ := (hI k hk).1 (Nat.eq_of_beq_eq_true hq)
          exact mm_k_invS hX hK hTT hE hB hex hCt rfl e1 e2 ⟨e3, e4⟩ hRb hRf hRl hRc hRs (hd (by simp [mm_len])) hh h kJ
        · obtain ⟨hq, h⟩ := mm_cond_inv h
          obtain ⟨bt, mL, rt, hh9, e1, e2, e3, e4⟩ := (hI k hk).2 (Nat.eq_of_beq_eq_true hq)
          exact mm_k_invSW hX hK hTT hE hB hex hCt rfl e1 e2 ⟨e3, e4⟩ hRb hRf hRl hRc hRs (hd (by simp [mm_len])) hh (mm_noT_inv h).1 kJ
      | ireturn =>
        have h : mm_rI me S st = some (.inl z') := h
        unfold mm_rI at h
        split at h
        · split at h
          · cases h
          · split at h
            · cases h
            · cases h
          · split at h
            · cases h
            · cases h
        · cases h
      | lreturn =>
        have h : mm_rJ S st = some (.inl z') := h
        unfold mm_rJ at h
        split at h <;> cases h
      | dreturn =>
        have h : mm_rD S st = some (.inl z') := h
        unfold mm_rD at h
        split at h <;> cases h
      | areturn =>
        have h : mm_rA S st = some (.inl z') := h
        unfold mm_rA at h
        split at h <;> cases h
      | return_ =>
        have h : mm_rV S st = some (.inl z') := h
        unfold mm_rV at h
        split at h <;> cases h
      | _ => first | (exact absurd rfl hp) | (cases h)
  next => cases h
end STEP
