section INV2
variable {p : Program} {l : Launch} {e : Env} {R : Room} {s : State} {m : MethodId} {args : Array Value} {below : List Frame} {meth : Method} {c : Code} {Q : State → Prop} {H : Heap} {locs : List Loc} {cells slots : Nat} {ls : Array Slot}
variable {D : va_G} {cl : List vw_C} {tys : List (ClassId × FieldType)} {ck : Nat → List Nat} {ct : Nat → Nat → FieldType} {ak : Nat → FieldType} {dA : Nat → ClassId} {B b Ls nL pc : Nat} {xs : Nat → Int32} {TT : List Cond} {strs : List (String × Nat × String)} {nc : List (String × String)} {cc : ByteArray} {own : String} {me : mm_Me} {L : mm_L} {st : List Value} {S S0 : mm_St} {z' : mm_Z} {ex : Nat → String} {mc ms : Nat}
variable {call : Nat → List Value → mm_St → Option mm_O} {yj : Nat → MethodName} {cw : Nat → Cond} {d : Nat}
theorem mm_map_argsS (as rest : List Value) : (as.reverse ++ rest).map (mm_v B b) = (as.map (mm_v B b)).reverse ++ rest.map (mm_v B b) := by
  simp
/-- a static method that returns -/
theorem mm_k_invS {ix j n maxL : Nat} {y : MethodName} {bytes : ByteArray} {ret : Option FieldType} (X : CallFix p m c cc nL s args TT own) (hK : va_K D cl tys s) (hTT : ∀ w ∈ TT, mm_wd w = true) (hE : mm_Env D cl tys TT strs nc B b Ls xs s) (hB : B ≤ s.heap.size) (hex : S0.2.2 = 0 → s.heap.size = B + S0.1.length) (hCt : mm_Ct l D cl tys TT strs nc B b Ls xs ck ak dA ex yj cw d call) (hy : yj j = y) (hcw : cw j = .code y bytes maxL ret)
    (hCE : mm_CE TT y bytes maxL n ret) (hML : Cond.methodLink own ix y ∈ TT ∧ Cond.static y ∈ TT) (hRb : R.slots ≤ 60000000) (hRf : d + 9 ≤ R.frames) (hRl : 40 * d + 240 ≤ R.locals) (hRc : mm_co z'.2.2.2 ≤ mm_co S0 + R.cells) (hRs : mm_sl ck z'.2.2.2 ≤ mm_sl ck S0 + R.slots) (hd : decode cc pc = .ok (.invokestatic ix, 3)) (hh : me.hs = [])
    (h : mm_invS call me pc L st S j n = some (.inl z')) (kJ : mm_J p l e R s m args below meth c Q B b nL (mm_Rz D cl ck ak dA B b s.heap S0) z') : mm_J p l e R s m args below meth c Q B b nL (mm_Rz D cl ck ak dA B b s.heap S0) (pc, L, st, S) := by
  obtain ⟨as, rest, rfl, hn, hwt, h⟩ := mm_invS_inv h
  rcases mm_back_inv hh h with ⟨v, S', hcall, hz⟩ | ⟨E, S', hcall, hz⟩
  · cases hz
    obtain ⟨m1, m2, m3, hM⟩ := hCt _ _ _ _ hcall
    obtain ⟨mc', hmc'⟩ := Nat.le.dest m1
    obtain ⟨ms', hms'⟩ := Nat.le.dest m2
    have hM0 := fun q => hM mc' ms' q hmc' hms'
    have hmc' : mm_co S + mc' = mm_co S' := hmc'
    have hms' : mm_sl ck S + ms' = mm_sl ck S' := hms'
    obtain ⟨l1, l2⟩ := hML
    have hX := X
    obtain ⟨hx, hb, hml, hown, hts⟩ := X
    intro ls H locs cells slots hL hR T hT XT
    have hsz := mm_size XT hT hR hB hex
    obtain ⟨hP, hS, hco, hsl, hnx⟩ := id hR
    have hco : mm_co S0 + cells = mm_co S := hco
    have hsl : mm_sl ck S0 + slots = mm_sl ck S := hsl
    have hM := hM0 (by have : mm_sl ck S' ≤ mm_sl ck S0 + R.slots := hRs; omega)
    rw [hy, hcw] at hM
    have hr := va_runS (e := e) (below := below) (meth := meth) (H := H) (locs := locs) (cells := cells) (slots := slots) (As := as.map (mm_v B b)) (rest := rest.map (mm_v B b)) (n := n) (g := F0 m pc ls ((as.reverse ++ rest).map (mm_v B b))) hX (mm_QO.met (v := v) rfl hM) ⟨hCE.toB hts l1 hRf hRl, hts _ l2⟩
      ⟨mm_Pc.blind hTT _ _, mm_pre (T := T) (as := as) hTT hE hR hsz⟩ rfl (by simp [hn]) hL.1 (mm_map_argsS _ _) (lv_room (by rw [mm_wt_eq]; exact hwt)) hd
      ⟨by have : mm_co S' ≤ mm_co S0 + R.cells := hRc; omega, by have : mm_sl ck S' ≤ mm_sl ck S0 + R.slots := hRs; omega⟩
    refine mm_run_ret (Q := Q) (v := v) hr rfl hS (fun H1 locs1 hP1 hS1 => ?_) T hT XT
    have k9 := kJ ls H1 locs1 (cells + mc') (slots + ms') hL ⟨hP1, hS1, by show mm_co S0 + (cells + mc') = mm_co S'; omega, by show mm_sl ck S0 + (slots + ms') = mm_sl ck S'; omega, by show S0.2.2 ≤ S'.2.2; have : S0.2.2 ≤ S.2.2 := hnx; have : S.2.2 ≤ S'.2.2 := m3; omega⟩
    have e9 : (v.toList ++ []).map (mm_v B b) ++ rest.map (mm_v B b) = (v.toList ++ rest).map (mm_v B b) := by simp
    rw [e9]
    exact k9
  · cases hz
/-- a static method that throws -/
theorem mm_k_invST {ix j n maxL : Nat} {y : MethodName} {bytes : ByteArray} {ret : Option FieldType} {o : mm_O} (X : CallFix p m c cc nL s args TT own) (hK : va_K D cl tys s) (hTT : ∀ w ∈ TT, mm_wd w = true) (hE : mm_Env D cl tys TT strs nc B b Ls xs s) (hB : B ≤ s.heap.size) (hex : S0.2.2 = 0 → s.heap.size = B + S0.1.length) (hCt : mm_Ct l D cl tys TT strs nc B b Ls xs ck ak dA ex yj cw d call) (hy : yj j = y) (hcw : cw j = .code y bytes maxL ret)
    (hCE : mm_CE TT y bytes maxL n ret) (hML : Cond.methodLink own ix y ∈ TT ∧ Cond.static y ∈ TT) (hRb : R.slots ≤ 60000000) (hRf : d + 9 ≤ R.frames) (hRl : 40 * d + 240 ≤ R.locals) (hRc : mc ≤ R.cells) (hRs : ms ≤ R.slots) (hmc : mm_co S0 + mc = mm_co o.2) (hms : mm_sl ck S0 + ms = mm_sl ck o.2) (hexc : ∀ x ∈ c.exceptionTable.toList, False) (hlocks : meth.locks = false) (hd : decode cc pc = .ok (.invokestatic ix, 3)) (hh : me.hs = [])
    (h : mm_invS call me pc L st S j n = some (.inr o)) : mm_J p l e R s m args below meth c (mm_E below args s D cl B b ck ak dA ex o mc ms) B b nL (mm_Rz D cl ck ak dA B b s.heap S0) (pc, L, st, S) := by
  obtain ⟨as, rest, rfl, hn, hwt, h⟩ := mm_invS_inv h
  rcases mm_back_inv hh h with ⟨v, S', hcall, hz⟩ | ⟨E, S', hcall, hz⟩
  · cases hz
  · cases hz
    obtain ⟨m1, m2, m3, hM⟩ := hCt _ _ _ _ hcall
    obtain ⟨mc', hmc'⟩ := Nat.le.dest m1
    obtain ⟨ms', hms'⟩ := Nat.le.dest m2
    have hM0 := fun q => hM mc' ms' q hmc' hms'
    have hmc' : mm_co S + mc' = mm_co S' := hmc'
    have hms' : mm_sl ck S + ms' = mm_sl ck S' := hms'
    obtain ⟨l1, l2⟩ := hML
    obtain ⟨hx, hb, hml, hown, hts⟩ := X
    intro ls H locs cells slots hL hR T hT XT
    have hsz := mm_size XT hT hR hB hex
    obtain ⟨hP, hS, hco, hsl, hnx⟩ := id hR
    have hco : mm_co S0 + cells = mm_co S := hco
    have hsl : mm_sl ck S0 + slots = mm_sl ck S := hsl
    have hM := hM0 (by have : mm_sl ck S0 + ms = mm_sl ck S' := hms; omega)
    rw [hy, hcw] at hM
    obtain ⟨q, st₀, t, T', L1, h0, hW, X', hL1, e1, e2, hq, hst⟩ := mm_thrS XT hx hown (hts _ l1) (hts _ l2) hCE.2.2.2.1 hM (mm_QO.thr (n := E) rfl) (mm_Pc.blind hTT _ _) (hCE.toR hTT hts hRf hRl)
      (g := F0 m pc ls ((as.reverse ++ rest).map (mm_v B b))) rfl (hL.1.trans hml.symm) (argsL := as.map (mm_v B b)) (rest := rest.map (mm_v B b)) (fun sig hsig => by have h5 := hCE.2.2.2.2.1; rw [hsig] at h5; rw [List.length_map, hn]; exact (Option.some.inj h5).symm) (mm_map_argsS _ _) (lv_room (by rw [mm_wt_eq]; exact hwt)) (by rw [hb]; exact hd)
      ⟨by have : mm_co S0 + mc = mm_co S' := hmc; omega, by have : mm_sl ck S0 + ms = mm_sl ck S' := hms; omega⟩ (fun U hU hW => mm_pre (T := T) (as := as) hTT hE hR hsz U (hU.trans hT) hW)
    obtain ⟨t2, a1, b1⟩ := mm_out (pc := pc) (ls := ls) (rest := rest.map (mm_v B b)) (mc := mc) (ms := ms) (n := E) rfl hT h0 hW X' hL1 e1 e2 hq hS hexc hlocks (by have : mm_co S0 + mc = mm_co S' := hmc; omega) (by have : mm_sl ck S0 + ms = mm_sl ck S' := hms; omega)
    exact ⟨t2, hst.trans a1, b1⟩
/-- a constructor -/
theorem mm_k_invI {ix ci j n maxL : Nat} {y : MethodName} {bytes : ByteArray} (X : CallFix p m c cc nL s args TT own) (hK : va_K D cl tys s) (hTT : ∀ w ∈ TT, mm_wd w = true) (hE : mm_Env D cl tys TT strs nc B b Ls xs s) (hB : B ≤ s.heap.size) (hex : S0.2.2 = 0 → s.heap.size = B + S0.1.length) (hCt : mm_Ct l D cl tys TT strs nc B b Ls xs ck ak dA ex yj cw d call) (hy : yj j = y) (hcw : cw j = .code y bytes maxL none)
    (hCE : mm_CE TT y bytes maxL n none) (hML : Cond.methodLink own ix y ∈ TT ∧ Cond.instanceMethod y ∈ TT ∧ y.name = "<init>") (hRb : R.slots ≤ 60000000) (hRf : d + 9 ≤ R.frames) (hRl : 40 * d + 240 ≤ R.locals) (hRc : mm_co z'.2.2.2 ≤ mm_co S0 + R.cells) (hRs : mm_sl ck z'.2.2.2 ≤ mm_sl ck S0 + R.slots) (hd : decode cc pc = .ok (.invokespecial ix, 3)) (hh : me.hs = [])
    (h : mm_inv call me pc L st S j n ci = some (.inl z')) (kJ : mm_J p l e R s m args below meth c Q B b nL (mm_Rz D cl ck ak dA B b s.heap S0) z') : mm_J p l e R s m args below meth c Q B b nL (mm_Rz D cl ck ak dA B b s.heap S0) (pc, L, st, S) := by
  obtain ⟨as, a, rest, rfl, hn, ha, hwt, h⟩ := mm_inv_inv h
  rcases mm_back_inv hh h with ⟨v, S', hcall, hz⟩ | ⟨E, S', hcall, hz⟩
  · cases hz
    obtain ⟨m1, m2, m3, hM⟩ := hCt _ _ _ _ hcall
    obtain ⟨mc', hmc'⟩ := Nat.le.dest m1
    obtain ⟨ms', hms'⟩ := Nat.le.dest m2
    have hM0 := fun q => hM mc' ms' q hmc' hms'
    have hmc' : mm_co S + mc' = mm_co S' := hmc'
    have hms' : mm_sl ck S + ms' = mm_sl ck S' := hms'
    obtain ⟨l1, l2, l3⟩ := hML
    have hX := X
    obtain ⟨hx, hb, hml, hown, hts⟩ := X
    intro ls H locs cells slots hL hR T hT XT
    have hsz := mm_size XT hT hR hB hex
    obtain ⟨hP, hS, hco, hsl, hnx⟩ := id hR
    have hco : mm_co S0 + cells = mm_co S := hco
    have hsl : mm_sl ck S0 + slots = mm_sl ck S := hsl
    have hM := hM0 (by have : mm_sl ck S' ≤ mm_sl ck S0 + R.slots := hRs; omega)
    rw [hy, hcw] at hM
    have hr := va_runI (e := e) (below := below) (meth := meth) (H := H) (locs := locs) (cells := cells) (slots := slots) (As := as.map (mm_v B b)) (rest := rest.map (mm_v B b)) (b := B + a) (n := n) (g := F0 m pc ls ((as.reverse ++ .ref a :: rest).map (mm_v B b))) hX (mm_QO.met (v := v) rfl hM) ⟨hCE.toB hts l1 hRf hRl, l3, hts _ l2⟩
      ⟨mm_Pc.blind hTT _ _, mm_pre (T := T) (as := .ref a :: as) hTT hE hR hsz⟩ rfl (by simp [hn]) hL.1 (mm_map_args _ _ _) (lv_room (by rw [mm_wt_eq]; exact hwt)) hd
      ⟨by have : mm_co S' ≤ mm_co S0 + R.cells := hRc; omega, by have : mm_sl ck S' ≤ mm_sl ck S0 + R.slots := hRs; omega⟩
    refine mm_run_ret (Q := Q) (v := v) hr rfl hS (fun H1 locs1 hP1 hS1 => ?_) T hT XT
    have k9 := kJ ls H1 locs1 (cells + mc') (slots + ms') hL ⟨hP1, hS1, by show mm_co S0 + (cells + mc') = mm_co S'; omega, by show mm_sl ck S0 + (slots + ms') = mm_sl ck S'; omega, by show S0.2.2 ≤ S'.2.2; have : S0.2.2 ≤ S.2.2 := hnx; have : S.2.2 ≤ S'.2.2 := m3; omega⟩
    have e9 : (v.toList ++ []).map (mm_v B b) ++ rest.map (mm_v B b) = (v.toList ++ rest).map (mm_v B b) := by simp
    rw [e9]
    exact k9
  · cases hz
end INV2
