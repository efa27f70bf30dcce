section REST
variable {p : Program} {l : Launch} {e : Env} {R : Room} {s : State} {m : MethodId} {args : Array Value} {below : List Frame} {meth : Method} {c : Code} {Q : State → Prop}
variable {D : va_G} {cl : List vw_C} {tys : List (ClassId × FieldType)} {ck : Nat → List Nat} {ct : Nat → Nat → FieldType} {ak : Nat → FieldType} {dA : Nat → ClassId} {B b Ls nL pc : Nat} {xs : Nat → Int32} {TT : List Cond} {strs : List (String × Nat × String)} {nc : List (String × String)} {cc : ByteArray} {own : String} {me : mm_Me} {L : mm_L} {st : List Value} {S S0 : mm_St} {z' : mm_Z} {Rz : mm_St → Heap → List Loc → Nat → Nat → Prop}
theorem mm_k_ldc {ix : Nat} {v : Int32} (X : CallFix p m c cc nL s args TT own) (hw : Cond.constant own ix v ∈ TT) (hd : decode cc pc = .ok (.ldc ix, 2)) (kJ : mm_J p l e R s m args below meth c Q B b nL Rz (pc + 2, L, .int v :: st, S)) : mm_J p l e R s m args below meth c Q B b nL Rz (pc, L, st, S) :=
  fun ls H locs cells slots hL hR => lv_ldc X.1 X.2.1 X.2.2.2.1 (X.2.2.2.2 _ hw) hd (kJ ls H locs cells slots hL hR)
theorem mm_k_ldc2 {ix : Nat} {v : Int64} (X : CallFix p m c cc nL s args TT own) (hw : Cond.constantLong own ix v ∈ TT) (hd : decode cc pc = .ok (.ldc2_w ix, 3)) (kJ : mm_J p l e R s m args below meth c Q B b nL Rz (pc + 3, L, .long v :: st, S)) : mm_J p l e R s m args below meth c Q B b nL Rz (pc, L, st, S) :=
  fun ls H locs cells slots hL hR => lv_ldc2 X.1 X.2.1 X.2.2.2.1 (X.2.2.2.2 _ hw) hd (kJ ls H locs cells slots hL hR)
theorem mm_k_ldc2d {ix : Nat} {v : UInt64} (X : CallFix p m c cc nL s args TT own) (hw : Cond.constantDouble own ix v ∈ TT) (hd : decode cc pc = .ok (.ldc2_w ix, 3)) (kJ : mm_J p l e R s m args below meth c Q B b nL Rz (pc + 3, L, .double v :: st, S)) : mm_J p l e R s m args below meth c Q B b nL Rz (pc, L, st, S) :=
  fun ls H locs cells slots hL hR => lv_ldc2d X.1 X.2.1 X.2.2.2.1 (X.2.2.2.2 _ hw) hd (kJ ls H locs cells slots hL hR)
theorem mm_k_obj {ix a : Nat} {r : List Value} (X : CallFix p m c cc nL s args TT own) (h1 : Cond.methodLink own ix Lib.objectInit ∈ TT) (h2 : Cond.instanceMethod Lib.objectInit ∈ TT) (h3 : Cond.code Lib.objectInit ⟨#[0xb1]⟩ 1 none ∈ TT) (hRf : 1 ≤ R.frames) (hRl : 20 ≤ R.locals) (hw : mm_wt r ≤ 8) (hd : decode cc pc = .ok (.invokespecial ix, 3))
    (kJ : mm_J p l e R s m args below meth c Q B b nL Rz (pc + 3, L, r, S)) : mm_J p l e R s m args below meth c Q B b nL Rz (pc, L, .ref a :: r, S) := by
  obtain ⟨hx, hb, hml, hown, hts⟩ := X
  intro ls H locs cells slots hL hR
  refine W.objInit hx hb hown (hts _ h1) (hts _ h2) (hts _ h3) (g := F0 m pc ls (.ref (B + a) :: r.map (mm_v B b))) rfl (hL.1.trans hml.symm) rfl hd hRf (by rw [mm_wt_eq]; show 2 * 0 + mm_wt r + 12 ≤ _; omega) ?_
  exact kJ ls H locs cells slots hL hR
theorem mm_k_alen (X : CallFix p m c cc nL s args TT own) (hK : va_K D cl tys s) (hT : mm_AT tys ak dA) (hE : mm_Env D cl tys TT strs nc B b Ls xs s) (hd : decode cc pc = .ok (.arraylength, 1)) {call : Nat → List Value → mm_St → Option mm_O}
    (h : mm_do call xs Ls ck ak me pc L st S .arraylength = some (.inl z')) (kJ : mm_J p l e R s m args below meth c Q B b nL (mm_Rz D cl ck ak dA B b s.heap S0) z') : mm_J p l e R s m args below meth c Q B b nL (mm_Rz D cl ck ak dA B b s.heap S0) (pc, L, st, S) := by
  obtain ⟨hx, hb, hml, hown, hts⟩ := X
  obtain ⟨v, r, rfl, h⟩ := mm_1_inv h
  cases v with
  | retAddr w =>
    cases h
    exact fun ls H locs cells slots hL hR => va_slen hx hb hE.2.2.2.2.2.2.1 (Nat.lt_of_lt_of_le hE.2.2.2.2.2.2.2.1 hE.2.2.2.2.2.2.2.2) (Nat.not_le.mpr hE.2.2.2.2.2.2.2.1) hR.2.1 hd (kJ ls H locs cells slots hL hR)
  | ref a =>
    have h : (match S.1[a]? with
      | some (.inr (_, n)) => mm_go (pc + 1) L (.int (Int32.ofNat n) :: r) S
      | _ => none) = some (.inl z') := h
    split at h
    next t n ha =>
      cases h
      obtain ⟨t0, h0⟩ := hT t
      exact fun ls H locs cells slots hL hR => va_alen hx hb hK hR.1 a t0 (mm_ws_ar ha rfl) h0 rfl hd (kJ ls H locs cells slots hL hR)
    next => cases h
  | _ => cases h
theorem mm_k_iald0 (X : CallFix p m c cc nL s args TT own) (hK : va_K D cl tys s) (hT : mm_AT tys ak dA) (hE : mm_Env D cl tys TT strs nc B b Ls xs s) (hd : decode cc pc = .ok (.iaload, 1)) {call : Nat → List Value → mm_St → Option mm_O}
    (h : mm_do call xs Ls ck ak me pc L st S .iaload = some (.inl z')) (kJ : mm_J p l e R s m args below meth c Q B b nL (mm_Rz D cl ck ak dA B b s.heap S0) z') : mm_J p l e R s m args below meth c Q B b nL (mm_Rz D cl ck ak dA B b s.heap S0) (pc, L, st, S) := by
  have h : mm_ial xs Ls ak pc L S st = some (.inl z') := h
  unfold mm_ial at h
  split at h
  next i w r =>
    obtain ⟨hi, h⟩ := mm_ix_inv h
    cases h
    obtain ⟨hx, hb, hml, hown, hts⟩ := X
    exact fun ls H locs cells slots hL hR => va_sld hx hb hE.2.2.2.2.2.2.1 (Nat.lt_of_lt_of_le hE.2.2.2.2.2.2.2.1 hE.2.2.2.2.2.2.2.2) (Nat.not_le.mpr hE.2.2.2.2.2.2.2.1) hR.2.1 hi hd (kJ ls H locs cells slots hL hR)
  next => exact mm_k_iald X hK hT hd h kJ
end REST
