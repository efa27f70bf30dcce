section INV
variable {p : Program} {l : Launch} {e : Env} {R : Room} {s : State} {m : MethodId} {args : Array Value} {below : List Frame} {meth : Method} {c : Code} {Q : State → Prop} {H : Heap} {locs : List Loc} {cells slots : Nat} {ls : Array Slot}
variable {D : va_G} {cl : List vw_C} {tys : List (ClassId × FieldType)} {ck : Nat → List Nat} {ct : Nat → Nat → FieldType} {ak : Nat → FieldType} {dA : Nat → ClassId} {B b Ls nL pc : Nat} {xs : Nat → Int32} {TT : List Cond} {strs : List (String × Nat × String)} {nc : List (String × String)} {cc : ByteArray} {own : String} {me : mm_Me} {L : mm_L} {st : List Value} {S S0 : mm_St} {z' : mm_Z} {ex : Nat → String} {mc ms : Nat}
variable {call : Nat → List Value → mm_St → Option mm_O} {yj : Nat → MethodName} {cw : Nat → Cond} {d : Nat}
theorem mm_inv_inv {j n ci : Nat} {r : mm_Z ⊕ mm_O} (h : mm_inv call me pc L st S j n ci = some r) : ∃ as a rest, st = as.reverse ++ .ref a :: rest ∧ as.length = n ∧ S.1[a]? = some (.inl ci) ∧ mm_wt rest ≤ 8 ∧ mm_back me pc L rest (call j (.ref a :: as) S) = some r := by
  unfold mm_inv at h
  split at h
  next as a rest hp =>
    split at h
    next cj ha =>
      obtain ⟨hq, h9⟩ := mm_cond_inv h
      rw [Bool.and_eq_true] at hq
      have hq1 := Nat.eq_of_beq_eq_true hq.1
      subst hq1
      obtain ⟨ys, e1, e2, e3⟩ := mm_pop_spec _ _ _ _ _ hp
      rw [List.append_nil] at e1
      subst e1
      exact ⟨as, a, rest, e2, e3, ha, Nat.le_of_ble_eq_true hq.2, h9⟩
    next => cases h
  next => cases h
theorem mm_invS_inv {j n : Nat} {r : mm_Z ⊕ mm_O} (h : mm_invS call me pc L st S j n = some r) : ∃ as rest, st = as.reverse ++ rest ∧ as.length = n ∧ mm_wt rest ≤ 8 ∧ mm_back me pc L rest (call j as S) = some r := by
  unfold mm_invS at h
  split at h
  next as rest hp =>
    obtain ⟨hq, h9⟩ := mm_cond_inv h
    obtain ⟨ys, e1, e2, e3⟩ := mm_pop_spec _ _ _ _ _ hp
    rw [List.append_nil] at e1
    subst e1
    exact ⟨as, rest, e2, e3, Nat.le_of_ble_eq_true hq, h9⟩
  next => cases h
/-- a caller without handlers -/
theorem mm_back_inv {rest : List Value} {o : Option mm_O} {r : mm_Z ⊕ mm_O} (hh : me.hs = []) (h : mm_back me pc L rest o = some r) : (∃ v S', o = some (.inl v, S') ∧ r = .inl (pc + 3, L, v.toList ++ rest, S')) ∨ (∃ E S', o = some (.inr E, S') ∧ r = .inr (.inr E, S')) := by
  unfold mm_back at h
  split at h
  next => cases h
  next v S' => cases h; exact Or.inl ⟨v, S', rfl, rfl⟩
  next E S' =>
    rw [hh] at h
    cases h
    exact Or.inr ⟨E, S', rfl, rfl⟩
/-- what a call by an instance rests on -/
def mm_ML (TT : List Cond) (cl : List vw_C) (own : String) (ix ci : Nat) (y : MethodName) : Prop := Cond.methodLink own ix y ∈ TT ∧ Cond.instanceMethod y ∈ TT ∧ ∃ q, cl[ci]? = some q ∧ Cond.selects q.1 y y ∈ TT
theorem mm_pre {T : State} {as : List Value} (hTT : ∀ w ∈ TT, mm_wd w = true) (hE : mm_Env D cl tys TT strs nc B b Ls xs s) (hR : mm_Rz D cl ck ak dA B b s.heap S0 S H locs cells slots) (hsz : S.2.2 = 0 → H.size = B + S.1.length) : ∀ U : State, U.heap = H → s.WarmedH U.vm → mm_Pc D cl tys TT strs nc B b Ls xs ck ak dA as S (as.map (mm_v B b)).toArray U :=
  fun U hU hW => ⟨rfl, hE.moved hTT hW hU hR.2.1, by rw [hU]; exact hR.1, by rw [hU]; exact hsz⟩
theorem mm_map_args (as rest : List Value) (a : Nat) : (as.reverse ++ .ref a :: rest).map (mm_v B b) = (as.map (mm_v B b)).reverse ++ .ref (B + a) :: rest.map (mm_v B b) := by
  simp [mm_v]
/-- an instance method that returns -/
theorem mm_k_inv {ix ci j n maxL : Nat} {y : MethodName} {bytes : ByteArray} {ret : Option FieldType} (X : CallFix p m c cc nL s args TT own) (hK : va_K D cl tys s) (hTT : ∀ w ∈ TT, mm_wd w = true) (hE : mm_Env D cl tys TT strs nc B b Ls xs s) (hB : B ≤ s.heap.size) (hex : S0.2.2 = 0 → s.heap.size = B + S0.1.length) (hCt : mm_Ct l D cl tys TT strs nc B b Ls xs ck ak dA ex yj cw d call) (hy : yj j = y) (hcw : cw j = .code y bytes maxL ret)
    (hCE : mm_CE TT y bytes maxL n ret) (hML : mm_ML TT cl own ix ci y) (hRb : R.slots ≤ 60000000) (hRf : d + 9 ≤ R.frames) (hRl : 40 * d + 240 ≤ R.locals) (hRc : mm_co z'.2.2.2 ≤ mm_co S0 + R.cells) (hRs : mm_sl ck z'.2.2.2 ≤ mm_sl ck S0 + R.slots) (hd : decode cc pc = .ok (.invokevirtual ix, 3)) (hh : me.hs = [])
    (h : mm_inv call me pc L st S j n ci = some (.inl z')) (kJ : mm_J p l e R s m args below meth c Q B b nL (mm_Rz D cl ck ak dA B b s.heap S0) z') : mm_J p l e R s m args below meth c Q B b nL (mm_Rz D cl ck ak dA B b s.heap S0) (pc, L, st, S) := by
  obtain ⟨as, a, rest, rfl, hn, ha, hwt, h⟩ := mm_inv_inv h
  rcases mm_back_inv hh h with ⟨v, S', hcall, hz⟩ | ⟨E, S', hcall, hz⟩
  · cases hz
    obtain ⟨m1, m2, m3, hM⟩ := hCt _ _ _ _ hcall
    obtain ⟨mc', hmc'⟩ := Nat.le.dest m1
    obtain ⟨ms', hms'⟩ := Nat.le.dest m2
    have hM0 := fun q => hM mc' ms' q hmc' hms'
    have hmc' : mm_co S + mc' = mm_co S' := hmc'
    have hms' : mm_sl ck S + ms' = mm_sl ck S' := hms'
    obtain ⟨l1, l2, ⟨C, T9, N9⟩, hc1, l3⟩ := hML
    have hX := X
    obtain ⟨hx, hb, hml, hown, hts⟩ := X
    intro ls H locs cells slots hL hR T hT XT
    have hsz := mm_size XT hT hR hB hex
    obtain ⟨hP, hS, hco, hsl, hnx⟩ := id hR
    have hco : mm_co S0 + cells = mm_co S := hco
    have hsl : mm_sl ck S0 + slots = mm_sl ck S := hsl
    have hM := hM0 (by have : mm_sl ck S' ≤ mm_sl ck S0 + R.slots := hRs; omega)
    rw [hy, hcw] at hM
    have hr := va_runV (e := e) (below := below) (meth := meth) (H := H) (locs := locs) (cells := cells) (slots := slots) (C := C) (As := as.map (mm_v B b)) (rest := rest.map (mm_v B b)) (b := B + a) (n := n) (g := F0 m pc ls ((as.reverse ++ .ref a :: rest).map (mm_v B b))) hX (mm_QO.met (v := v) rfl hM) ⟨hCE.toB hts l1 hRf hRl, hts _ l2, hts _ l3⟩
      ⟨mm_Pc.blind hTT _ _, va_recv hK hP hc1 (mm_ws_at ha), mm_pre (T := T) (as := .ref a :: as) hTT hE hR hsz⟩ rfl (by simp [hn]) hL.1 (mm_map_args _ _ _) (lv_room (by rw [mm_wt_eq]; exact hwt)) hd
      ⟨by have : mm_co S' ≤ mm_co S0 + R.cells := hRc; omega, by have : mm_sl ck S' ≤ mm_sl ck S0 + R.slots := hRs; omega⟩
    refine mm_run_ret (Q := Q) (v := v) hr rfl hS (fun H1 locs1 hP1 hS1 => ?_) T hT XT
    have k9 := kJ ls H1 locs1 (cells + mc') (slots + ms') hL ⟨hP1, hS1, by show mm_co S0 + (cells + mc') = mm_co S'; omega, by show mm_sl ck S0 + (slots + ms') = mm_sl ck S'; omega, by show S0.2.2 ≤ S'.2.2; have : S0.2.2 ≤ S.2.2 := hnx; have : S.2.2 ≤ S'.2.2 := m3; omega⟩
    have e9 : (v.toList ++ []).map (mm_v B b) ++ rest.map (mm_v B b) = (v.toList ++ rest).map (mm_v B b) := by simp
    rw [e9]
    exact k9
  · cases hz
/-- an instance method that throws -/
theorem mm_k_invT {ix ci j n maxL : Nat} {y : MethodName} {bytes : ByteArray} {ret : Option FieldType} {o : mm_O} (X : CallFix p m c cc nL s args TT own) (hK : va_K D cl tys s) (hTT : ∀ w ∈ TT, mm_wd w = true) (hE : mm_Env D cl tys TT strs nc B b Ls xs s) (hB : B ≤ s.heap.size) (hex : S0.2.2 = 0 → s.heap.size = B + S0.1.length) (hCt : mm_Ct l D cl tys TT strs nc B b Ls xs ck ak dA ex yj cw d call) (hy : yj j = y) (hcw : cw j = .code y bytes maxL ret)
    (hCE : mm_CE TT y bytes maxL n ret) (hML : mm_ML TT cl own ix ci y) (hRb : R.slots ≤ 60000000) (hRf : d + 9 ≤ R.frames) (hRl : 40 * d + 240 ≤ R.locals) (hRc : mc ≤ R.cells) (hRs : ms ≤ R.slots) (hmc : mm_co S0 + mc = mm_co o.2) (hms : mm_sl ck S0 + ms = mm_sl ck o.2) (hexc : ∀ x ∈ c.exceptionTable.toList, False) (hlocks : meth.locks = false) (hd : decode cc pc = .ok (.invokevirtual ix, 3)) (hh : me.hs = [])
    (h : mm_inv call me pc L st S j n ci = some (.inr o)) : mm_J p l e R s m args below meth c (mm_E below args s D cl B b ck ak dA ex o mc ms) B b nL (mm_Rz D cl ck ak dA B b s.heap S0) (pc, L, st, S) := by
  obtain ⟨as, a, rest, rfl, hn, ha, hwt, h⟩ := mm_inv_inv h
  rcases mm_back_inv hh h with ⟨v, S', hcall, hz⟩ | ⟨E, S', hcall, hz⟩
  · cases hz
  · cases hz
    obtain ⟨m1, m2, m3, hM⟩ := hCt _ _ _ _ hcall
    obtain ⟨mc', hmc'⟩ := Nat.le.dest m1
    obtain ⟨ms', hms'⟩ := Nat.le.dest m2
    have hM0 := fun q => hM mc' ms' q hmc' hms'
    have hmc' : mm_co S + mc' = mm_co S' := hmc'
    have hms' : mm_sl ck S + ms' = mm_sl ck S' := hms'
    obtain ⟨l1, l2, ⟨C, T9, N9⟩, hc1, l3⟩ := hML
    obtain ⟨hx, hb, hml, hown, hts⟩ := X
    intro ls H locs cells slots hL hR T hT XT
    have hsz := mm_size XT hT hR hB hex
    obtain ⟨hP, hS, hco, hsl, hnx⟩ := id hR
    have hco : mm_co S0 + cells = mm_co S := hco
    have hsl : mm_sl ck S0 + slots = mm_sl ck S := hsl
    have hM := hM0 (by have : mm_sl ck S0 + ms = mm_sl ck S' := hms; omega)
    rw [hy, hcw] at hM
    obtain ⟨cellB, r1, r2, r3⟩ := va_recv hK hP hc1 (mm_ws_at ha)
    obtain ⟨q, st₀, t, T', L1, h0, hW, X', hL1, e1, e2, hq, hst⟩ := mm_thrV XT hx (C := C) hown (hts _ l1) (hts _ l2) (hts _ l3) hCE.2.2.2.1 hM (mm_QO.thr (n := E) rfl) (mm_Pc.blind hTT _ _) (hCE.toR hTT hts hRf hRl) (by rw [hT]; exact r1) r2 r3
      (g := F0 m pc ls ((as.reverse ++ .ref a :: rest).map (mm_v B b))) rfl (hL.1.trans hml.symm) (argsL := as.map (mm_v B b)) (rest := rest.map (mm_v B b)) (fun sig hsig => by have h5 := hCE.2.2.2.2.1; rw [hsig] at h5; rw [List.length_map, hn]; exact (Option.some.inj h5).symm) (mm_map_args _ _ _) (lv_room (by rw [mm_wt_eq]; exact hwt)) (by rw [hb]; exact hd)
      ⟨by have : mm_co S0 + mc = mm_co S' := hmc; omega, by have : mm_sl ck S0 + ms = mm_sl ck S' := hms; omega⟩ (fun U hU hW => mm_pre (T := T) (as := .ref a :: as) hTT hE hR hsz U (hU.trans hT) hW)
    obtain ⟨t2, a1, b1⟩ := mm_out (pc := pc) (ls := ls) (rest := rest.map (mm_v B b)) (mc := mc) (ms := ms) (n := E) rfl hT h0 hW X' hL1 e1 e2 hq hS hexc hlocks (by have : mm_co S0 + mc = mm_co S' := hmc; omega) (by have : mm_sl ck S0 + ms = mm_sl ck S' := hms; omega)
    exact ⟨t2, hst.trans a1, b1⟩
end INV
