section ARR
variable {p : Program} {l : Launch} {e : Env} {R : Room} {s : State} {m : MethodId} {args : Array Value} {below : List Frame} {meth : Method} {c : Code} {Q : State → Prop}
variable {D : va_G} {cl : List vw_C} {tys : List (ClassId × FieldType)} {ck : Nat → List Nat} {ct : Nat → Nat → FieldType} {ak : Nat → FieldType} {dA : Nat → ClassId} {B b Ls nL pc : Nat} {xs : Nat → Int32} {TT : List Cond} {cc : ByteArray} {own : String} {me : mm_Me} {L : mm_L} {st : List Value} {S S0 : mm_St} {z' : mm_Z}
theorem mm_ty0 {ty : FieldType} (h : mm_ty ty = 0) : ty = .int := by cases ty <;> first | rfl | cases h
theorem mm_ty1 {ty : FieldType} (h : mm_ty ty = 1) : ty = .char := by cases ty <;> first | rfl | cases h
theorem mm_ty2 {ty : FieldType} (h : mm_ty ty = 2) : ty = .double := by cases ty <;> first | rfl | cases h
theorem mm_ty3 {ty : FieldType} (h : mm_ty ty = 3) : ty = .long := by cases ty <;> first | rfl | cases h
theorem mm_ty4 {ty : FieldType} (h : mm_ty ty = 4) : ty = .boolean := by cases ty <;> first | rfl | cases h
theorem mm_ty5 {ty : FieldType} (h : mm_ty ty = 5) : ∃ C, ty = .object C := by cases ty <;> first | exact ⟨_, rfl⟩ | cases h
/-- the arrays' classes -/
def mm_AT (tys : List (ClassId × FieldType)) (ak : Nat → FieldType) (dA : Nat → ClassId) : Prop := ∀ t, ∃ t0 : Nat, tys[t0]? = some (dA t, ak t)
theorem mm_ws_ar {t n a : Nat} {ty : FieldType} (ha : S.1[a]? = some (.inr (t, n))) (hty : ak t = ty) : (mm_ws ck ak dA B b S.1 S.2.1)[a]? = some (B + a, .inl (dA t, n, mm_arr ty S.2.1 B a)) := by
  have h := mm_ws_at (ck := ck) (ak := ak) (dA := dA) (B := B) (b := b) (M := S.2.1) ha
  simp only [mm_cell, hty] at h
  exact h
theorem mm_ws_ar_set {t n a : Nat} {ty : FieldType} {M' : mm_M} {x} (ha : S.1[a]? = some (.inr (t, n))) (hty : ak t = ty) (hx : mm_arr ty M' B a = x) (hag : ∀ c, c ≠ a → mm_ag S.2.1 M' c) :
    mm_ws ck ak dA B b S.1 M' = (mm_ws ck ak dA B b S.1 S.2.1).set a (B + a, .inl (dA t, n, x)) :=
  mm_ws_set ha (by simp only [mm_cell, hty, hx]) fun c hc sc _ => mm_cell_ag (hag c hc) sc

theorem mm_k_iald (X : CallFix p m c cc nL s args TT own) (hK : va_K D cl tys s) (hT : mm_AT tys ak dA) (hd : decode cc pc = .ok (.iaload, 1))
    (h : (mm_ai ak S st 0 fun i a r => mm_go (pc + 1) L (.int (S.2.1.1 a i.toNatClampNeg) :: r) S) = some (.inl z')) (kJ : mm_J p l e R s m args below meth c Q B b nL (mm_Rz D cl ck ak dA B b s.heap S0) z') : mm_J p l e R s m args below meth c Q B b nL (mm_Rz D cl ck ak dA B b s.heap S0) (pc, L, st, S) := by
  obtain ⟨hx, hb, hml, hown, hts⟩ := X
  obtain ⟨i, a, r, t, n, rfl, ha, ht, hi, h⟩ := mm_ai_inv h
  cases h
  obtain ⟨t0, h0⟩ := hT t
  have hty := mm_ty0 ht
  rw [hty] at h0
  exact fun ls H locs cells slots hL hR => va_iald hx hb hK hR.1 a t0 (mm_ws_ar ha hty) h0 hi hd (kJ ls H locs cells slots hL hR)
theorem mm_k_cald (X : CallFix p m c cc nL s args TT own) (hK : va_K D cl tys s) (hT : mm_AT tys ak dA) (hd : decode cc pc = .ok (.caload, 1))
    (h : (mm_ai ak S st 1 fun i a r => mm_go (pc + 1) L (.int (S.2.1.1 a i.toNatClampNeg) :: r) S) = some (.inl z')) (kJ : mm_J p l e R s m args below meth c Q B b nL (mm_Rz D cl ck ak dA B b s.heap S0) z') : mm_J p l e R s m args below meth c Q B b nL (mm_Rz D cl ck ak dA B b s.heap S0) (pc, L, st, S) := by
  obtain ⟨hx, hb, hml, hown, hts⟩ := X
  obtain ⟨i, a, r, t, n, rfl, ha, ht, hi, h⟩ := mm_ai_inv h
  cases h
  obtain ⟨t0, h0⟩ := hT t
  have hty := mm_ty1 ht
  rw [hty] at h0
  exact fun ls H locs cells slots hL hR => va_cald hx hb hK hR.1 a t0 (mm_ws_ar ha hty) h0 hi hd (kJ ls H locs cells slots hL hR)
theorem mm_k_zald (X : CallFix p m c cc nL s args TT own) (hK : va_K D cl tys s) (hT : mm_AT tys ak dA) (hd : decode cc pc = .ok (.baload, 1))
    (h : (mm_ai ak S st 4 fun i a r => mm_go (pc + 1) L (.int (S.2.1.1 a i.toNatClampNeg) :: r) S) = some (.inl z')) (kJ : mm_J p l e R s m args below meth c Q B b nL (mm_Rz D cl ck ak dA B b s.heap S0) z') : mm_J p l e R s m args below meth c Q B b nL (mm_Rz D cl ck ak dA B b s.heap S0) (pc, L, st, S) := by
  obtain ⟨hx, hb, hml, hown, hts⟩ := X
  obtain ⟨i, a, r, t, n, rfl, ha, ht, hi, h⟩ := mm_ai_inv h
  cases h
  obtain ⟨t0, h0⟩ := hT t
  have hty := mm_ty4 ht
  rw [hty] at h0
  exact fun ls H locs cells slots hL hR => va_zald hx hb hK hR.1 a t0 (mm_ws_ar ha hty) h0 hi hd (kJ ls H locs cells slots hL hR)
theorem mm_k_dald (X : CallFix p m c cc nL s args TT own) (hK : va_K D cl tys s) (hT : mm_AT tys ak dA) (hd : decode cc pc = .ok (.daload, 1))
    (h : (mm_ai ak S st 2 fun i a r => mm_go (pc + 1) L (.double (S.2.1.2.1 a i.toNatClampNeg) :: r) S) = some (.inl z')) (kJ : mm_J p l e R s m args below meth c Q B b nL (mm_Rz D cl ck ak dA B b s.heap S0) z') : mm_J p l e R s m args below meth c Q B b nL (mm_Rz D cl ck ak dA B b s.heap S0) (pc, L, st, S) := by
  obtain ⟨hx, hb, hml, hown, hts⟩ := X
  obtain ⟨i, a, r, t, n, rfl, ha, ht, hi, h⟩ := mm_ai_inv h
  cases h
  obtain ⟨t0, h0⟩ := hT t
  have hty := mm_ty2 ht
  rw [hty] at h0
  exact fun ls H locs cells slots hL hR => va_dald hx hb hK hR.1 a t0 (mm_ws_ar ha hty) h0 hi hd (kJ ls H locs cells slots hL hR)
theorem mm_k_lald (X : CallFix p m c cc nL s args TT own) (hK : va_K D cl tys s) (hT : mm_AT tys ak dA) (hd : decode cc pc = .ok (.laload, 1))
    (h : (mm_ai ak S st 3 fun i a r => mm_go (pc + 1) L (.long (S.2.1.2.2.2 a i.toNatClampNeg) :: r) S) = some (.inl z')) (kJ : mm_J p l e R s m args below meth c Q B b nL (mm_Rz D cl ck ak dA B b s.heap S0) z') : mm_J p l e R s m args below meth c Q B b nL (mm_Rz D cl ck ak dA B b s.heap S0) (pc, L, st, S) := by
  obtain ⟨hx, hb, hml, hown, hts⟩ := X
  obtain ⟨i, a, r, t, n, rfl, ha, ht, hi, h⟩ := mm_ai_inv h
  cases h
  obtain ⟨t0, h0⟩ := hT t
  have hty := mm_ty3 ht
  rw [hty] at h0
  exact fun ls H locs cells slots hL hR => va_lald hx hb hK hR.1 a t0 (mm_ws_ar ha hty) h0 hi hd (kJ ls H locs cells slots hL hR)
theorem mm_k_aald (X : CallFix p m c cc nL s args TT own) (hK : va_K D cl tys s) (hT : mm_AT tys ak dA) (hd : decode cc pc = .ok (.aaload, 1))
    (h : (mm_ai ak S st 5 fun i a r => mm_go (pc + 1) L (va_rf (S.2.1.2.2.1 a i.toNatClampNeg) :: r) S) = some (.inl z')) (kJ : mm_J p l e R s m args below meth c Q B b nL (mm_Rz D cl ck ak dA B b s.heap S0) z') : mm_J p l e R s m args below meth c Q B b nL (mm_Rz D cl ck ak dA B b s.heap S0) (pc, L, st, S) := by
  obtain ⟨hx, hb, hml, hown, hts⟩ := X
  obtain ⟨i, a, r, t, n, rfl, ha, ht, hi, h⟩ := mm_ai_inv h
  cases h
  obtain ⟨t0, h0⟩ := hT t
  obtain ⟨C, hty⟩ := mm_ty5 ht
  rw [hty] at h0
  intro ls H locs cells slots hL hR
  have k9 := kJ ls H locs cells slots hL hR
  simp only [List.map_cons, mm_v_rf] at k9
  exact va_aldq hx hb hK hR.1 a t0 (mm_ws_ar ha hty) h0 hi hd k9
theorem mm_k_iast (X : CallFix p m c cc nL s args TT own) (hK : va_K D cl tys s) (hT : mm_AT tys ak dA) (hd : decode cc pc = .ok (.iastore, 1))
    (h : (mm_i st fun x st => mm_ai ak S st 0 fun i a r => mm_go (pc + 1) L r (mm_sI S a i.toNatClampNeg x)) = some (.inl z')) (kJ : mm_J p l e R s m args below meth c Q B b nL (mm_Rz D cl ck ak dA B b s.heap S0) z') : mm_J p l e R s m args below meth c Q B b nL (mm_Rz D cl ck ak dA B b s.heap S0) (pc, L, st, S) := by
  obtain ⟨hx, hb, hml, hown, hts⟩ := X
  obtain ⟨x, st, rfl, h⟩ := mm_i_inv h
  obtain ⟨i, a, r, t, n, rfl, ha, ht, hi, h⟩ := mm_ai_inv h
  cases h
  obtain ⟨t0, h0⟩ := hT t
  have hty := mm_ty0 ht
  rw [hty] at h0
  intro ls H locs cells slots hL hR
  obtain ⟨hP, hS, hco, hsl, hnx⟩ := hR
  refine va_iast hx hb hK hP (mm_ws_D (fun q h => h) _ _) hS a t0 (mm_ws_ar ha hty) h0 hi hd (fun H1 locs1 hP1 _ hS1 => kJ ls H1 locs1 cells slots hL ⟨?_, hS1, hco, hsl, hnx⟩)
  show va_P D cl (mm_ws ck ak dA B b S.1 (mm_sI S a i.toNatClampNeg x).2.1) H1
  rw [mm_ws_ar_set ha hty (M' := (mm_sI S a i.toNatClampNeg x).2.1) rfl (fun c hc => mm_sI_ag hc)]
  have e9 : mm_arr (.int) (mm_sI S a i.toNatClampNeg x).2.1 B a = .inl (upd (S.2.1.1 a) i.toNatClampNeg x) := by
    simp only [mm_arr, mm_sI, mm_u_row]
  rw [e9]
  exact hP1
theorem mm_k_cast (X : CallFix p m c cc nL s args TT own) (hK : va_K D cl tys s) (hT : mm_AT tys ak dA) (hd : decode cc pc = .ok (.castore, 1))
    (h : (mm_i st fun x st => mm_ai ak S st 1 fun i a r => mm_go (pc + 1) L r (mm_sI S a i.toNatClampNeg (vp_nar .char x))) = some (.inl z')) (kJ : mm_J p l e R s m args below meth c Q B b nL (mm_Rz D cl ck ak dA B b s.heap S0) z') : mm_J p l e R s m args below meth c Q B b nL (mm_Rz D cl ck ak dA B b s.heap S0) (pc, L, st, S) := by
  obtain ⟨hx, hb, hml, hown, hts⟩ := X
  obtain ⟨x, st, rfl, h⟩ := mm_i_inv h
  obtain ⟨i, a, r, t, n, rfl, ha, ht, hi, h⟩ := mm_ai_inv h
  cases h
  obtain ⟨t0, h0⟩ := hT t
  have hty := mm_ty1 ht
  rw [hty] at h0
  intro ls H locs cells slots hL hR
  obtain ⟨hP, hS, hco, hsl, hnx⟩ := hR
  refine va_cast hx hb hK hP (mm_ws_D (fun q h => h) _ _) hS a t0 (mm_ws_ar ha hty) h0 hi hd (fun H1 locs1 hP1 _ hS1 => kJ ls H1 locs1 cells slots hL ⟨?_, hS1, hco, hsl, hnx⟩)
  show va_P D cl (mm_ws ck ak dA B b S.1 (mm_sI S a i.toNatClampNeg (vp_nar .char x)).2.1) H1
  rw [mm_ws_ar_set ha hty (M' := (mm_sI S a i.toNatClampNeg (vp_nar .char x)).2.1) rfl (fun c hc => mm_sI_ag hc)]
  have e9 : mm_arr (.char) (mm_sI S a i.toNatClampNeg (vp_nar .char x)).2.1 B a = .inl (upd (S.2.1.1 a) i.toNatClampNeg (vp_nar .char x)) := by
    simp only [mm_arr, mm_sI, mm_u_row]
  rw [e9]
  exact hP1
theorem mm_k_zast (X : CallFix p m c cc nL s args TT own) (hK : va_K D cl tys s) (hT : mm_AT tys ak dA) (hd : decode cc pc = .ok (.bastore, 1))
    (h : (mm_i st fun x st => mm_ai ak S st 4 fun i a r => mm_go (pc + 1) L r (mm_sI S a i.toNatClampNeg (vp_nar .boolean x))) = some (.inl z')) (kJ : mm_J p l e R s m args below meth c Q B b nL (mm_Rz D cl ck ak dA B b s.heap S0) z') : mm_J p l e R s m args below meth c Q B b nL (mm_Rz D cl ck ak dA B b s.heap S0) (pc, L, st, S) := by
  obtain ⟨hx, hb, hml, hown, hts⟩ := X
  obtain ⟨x, st, rfl, h⟩ := mm_i_inv h
  obtain ⟨i, a, r, t, n, rfl, ha, ht, hi, h⟩ := mm_ai_inv h
  cases h
  obtain ⟨t0, h0⟩ := hT t
  have hty := mm_ty4 ht
  rw [hty] at h0
  intro ls H locs cells slots hL hR
  obtain ⟨hP, hS, hco, hsl, hnx⟩ := hR
  refine va_zast hx hb hK hP (mm_ws_D (fun q h => h) _ _) hS a t0 (mm_ws_ar ha hty) h0 hi hd (fun H1 locs1 hP1 _ hS1 => kJ ls H1 locs1 cells slots hL ⟨?_, hS1, hco, hsl, hnx⟩)
  show va_P D cl (mm_ws ck ak dA B b S.1 (mm_sI S a i.toNatClampNeg (vp_nar .boolean x)).2.1) H1
  rw [mm_ws_ar_set ha hty (M' := (mm_sI S a i.toNatClampNeg (vp_nar .boolean x)).2.1) rfl (fun c hc => mm_sI_ag hc)]
  have e9 : mm_arr (.boolean) (mm_sI S a i.toNatClampNeg (vp_nar .boolean x)).2.1 B a = .inl (upd (S.2.1.1 a) i.toNatClampNeg (vp_nar .boolean x)) := by
    simp only [mm_arr, mm_sI, mm_u_row]
  rw [e9]
  exact hP1
theorem mm_k_dast (X : CallFix p m c cc nL s args TT own) (hK : va_K D cl tys s) (hT : mm_AT tys ak dA) (hd : decode cc pc = .ok (.dastore, 1))
    (h : (mm_d st fun x st => mm_ai ak S st 2 fun i a r => mm_go (pc + 1) L r (mm_sD S a i.toNatClampNeg x)) = some (.inl z')) (kJ : mm_J p l e R s m args below meth c Q B b nL (mm_Rz D cl ck ak dA B b s.heap S0) z') : mm_J p l e R s m args below meth c Q B b nL (mm_Rz D cl ck ak dA B b s.heap S0) (pc, L, st, S) := by
  obtain ⟨hx, hb, hml, hown, hts⟩ := X
  obtain ⟨x, st, rfl, h⟩ := mm_d_inv h
  obtain ⟨i, a, r, t, n, rfl, ha, ht, hi, h⟩ := mm_ai_inv h
  cases h
  obtain ⟨t0, h0⟩ := hT t
  have hty := mm_ty2 ht
  rw [hty] at h0
  intro ls H locs cells slots hL hR
  obtain ⟨hP, hS, hco, hsl, hnx⟩ := hR
  refine va_dast hx hb hK hP (mm_ws_D (fun q h => h) _ _) hS a t0 (mm_ws_ar ha hty) h0 hi hd (fun H1 locs1 hP1 _ hS1 => kJ ls H1 locs1 cells slots hL ⟨?_, hS1, hco, hsl, hnx⟩)
  show va_P D cl (mm_ws ck ak dA B b S.1 (mm_sD S a i.toNatClampNeg x).2.1) H1
  rw [mm_ws_ar_set ha hty (M' := (mm_sD S a i.toNatClampNeg x).2.1) rfl (fun c hc => mm_sD_ag hc)]
  have e9 : mm_arr (.double) (mm_sD S a i.toNatClampNeg x).2.1 B a = .inr (.inr (.inr (.inl (vf_upd (S.2.1.2.1 a) i.toNatClampNeg x)))) := by
    simp only [mm_arr, mm_sD, mm_u_rowD]
  rw [e9]
  exact hP1
theorem mm_k_last (X : CallFix p m c cc nL s args TT own) (hK : va_K D cl tys s) (hT : mm_AT tys ak dA) (hd : decode cc pc = .ok (.lastore, 1))
    (h : (mm_j st fun x st => mm_ai ak S st 3 fun i a r => mm_go (pc + 1) L r (mm_sJ S a i.toNatClampNeg x)) = some (.inl z')) (kJ : mm_J p l e R s m args below meth c Q B b nL (mm_Rz D cl ck ak dA B b s.heap S0) z') : mm_J p l e R s m args below meth c Q B b nL (mm_Rz D cl ck ak dA B b s.heap S0) (pc, L, st, S) := by
  obtain ⟨hx, hb, hml, hown, hts⟩ := X
  obtain ⟨x, st, rfl, h⟩ := mm_j_inv h
  obtain ⟨i, a, r, t, n, rfl, ha, ht, hi, h⟩ := mm_ai_inv h
  cases h
  obtain ⟨t0, h0⟩ := hT t
  have hty := mm_ty3 ht
  rw [hty] at h0
  intro ls H locs cells slots hL hR
  obtain ⟨hP, hS, hco, hsl, hnx⟩ := hR
  refine va_last hx hb hK hP (mm_ws_D (fun q h => h) _ _) hS a t0 (mm_ws_ar ha hty) h0 hi hd (fun H1 locs1 hP1 _ hS1 => kJ ls H1 locs1 cells slots hL ⟨?_, hS1, hco, hsl, hnx⟩)
  show va_P D cl (mm_ws ck ak dA B b S.1 (mm_sJ S a i.toNatClampNeg x).2.1) H1
  rw [mm_ws_ar_set ha hty (M' := (mm_sJ S a i.toNatClampNeg x).2.1) rfl (fun c hc => mm_sJ_ag hc)]
  have e9 : mm_arr (.long) (mm_sJ S a i.toNatClampNeg x).2.1 B a = .inr (.inl (vp_updL (S.2.1.2.2.2 a) i.toNatClampNeg x)) := by
    simp only [mm_arr, mm_sJ, mm_u_rowJ]
  rw [e9]
  exact hP1
end ARR
