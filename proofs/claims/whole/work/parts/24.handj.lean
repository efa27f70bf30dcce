section HANDJ
variable {p : Program} {l : Launch} {e : Env} {R : Room} {s : State} {m : MethodId} {args : Array Value} {below : List Frame} {meth : Method} {c : Code} {Q : State → Prop} {H : Heap} {locs : List Loc} {cells slots : Nat} {ls : Array Slot}
variable {D : va_G} {cl : List vw_C} {tys : List (ClassId × FieldType)} {ck : Nat → List Nat} {ct : Nat → Nat → FieldType} {ak : Nat → FieldType} {dA : Nat → ClassId} {B b Ls nL pc : Nat} {xs : Nat → Int32} {TT : List Cond} {strs : List (String × Nat × String)} {nc : List (String × String)} {cc : ByteArray} {own : String} {me : mm_Me} {L : mm_L} {st : List Value} {S S0 : mm_St} {z' : mm_Z} {ex : Nat → String} {mc ms : Nat}
variable {call : Nat → List Value → mm_St → Option mm_O} {yj : Nat → MethodName} {cw : Nat → Cond} {d : Nat}
/-- an instance method called where there are handlers -/
theorem mm_k_invH {ix ci j n maxL : Nat} {y : MethodName} {bytes : ByteArray} {ret : Option FieldType} (X : CallFix p m c cc me.nL s args TT own) (hK : va_K D cl tys s) (hTT : ∀ w ∈ TT, mm_wd w = true) (hE : mm_Env D cl tys TT strs nc B b Ls xs s) (hB : B ≤ s.heap.size) (hex : S0.2.2 = 0 → s.heap.size = B + S0.1.length) (hCt : mm_Ct l D cl tys TT strs nc B b Ls xs ck ak dA ex yj cw d call) (hy : yj j = y) (hcw : cw j = .code y bytes maxL ret)
    (hCE : mm_CE TT y bytes maxL n ret) (hML : mm_ML TT cl own ix ci y) (hRb : R.slots ≤ 60000000) (hRf : d + 9 ≤ R.frames) (hRl : 40 * d + 240 ≤ R.locals) (hRc : mm_co z'.2.2.2 ≤ mm_co S0 + R.cells) (hRs : mm_sl ck z'.2.2.2 ≤ mm_sl ck S0 + R.slots) (hd : decode cc pc = .ok (.invokevirtual ix, 3))
    (hdec : ∀ pc i n, me.dec[pc]? = some (some (i, n)) → decode cc pc = .ok (i, n) ∧ (mm_len i ≠ 0 → n = mm_len i) ∧ mm_sti i ≤ me.nL) (hne : me.hs ≠ []) (htab : c.exceptionTable.toList.map (fun h => (h.startPc, h.endPc, h.handlerPc, h.catchType)) = me.hs) (hok : mm_HOK TT nc ex own me)
    (h : mm_inv call me pc L st S j n ci = some (.inl z')) (kJ : mm_J p l e R s m args below meth c Q B b me.nL (mm_Rz D cl ck ak dA B b s.heap S0) z') : mm_J p l e R s m args below meth c Q B b me.nL (mm_Rz D cl ck ak dA B b s.heap S0) (pc, L, st, S) := by
  have h9 := h
  obtain ⟨as, a, rest, hst, hn, ha, hwt, h⟩ := mm_inv_inv h
  unfold mm_back at h
  split at h
  next => cases h
  next v S' hcall =>
    have hz : z' = (pc + 3, L, v.toList ++ rest, S') := by cases h; rfl
    -- as if there were no handlers
    have h2 : mm_inv call (me.dec, me.lk, [], me.nL, me.rk) pc L st S j n ci = some (.inl z') := by
      unfold mm_inv at h9 ⊢
      split at h9
      next as9 a9 rest9 hp =>
        obtain ⟨ys, e1, e2, e3⟩ := mm_pop_spec _ _ _ _ _ hp
        rw [List.append_nil] at e1
        subst e1
        have e4 : as9.reverse ++ Value.ref a9 :: rest9 = as.reverse ++ Value.ref a :: rest := e2.symm.trans hst
        obtain ⟨e5, e6⟩ := List.append_inj e4 (by rw [List.length_reverse, List.length_reverse, e3, hn])
        cases e6
        have e7 : as9 = as := by have e8 := congrArg List.reverse e5; simpa using e8
        subst e7
        split at h9
        next cj hcj =>
          obtain ⟨hq, h8⟩ := mm_cond_inv h9
          rw [hq]
          rw [cond_true, hcall, hz]
          rfl
        next => cases h9
      next => cases h9
    exact mm_k_inv (me := (me.dec, me.lk, [], me.nL, me.rk)) (nL := me.nL) X hK hTT hE hB hex hCt hy hcw hCE hML hRb hRf hRl hRc hRs hd rfl h2 kJ
  next E S' hcall =>
    split at h
    next hnil => exact absurd hnil hne
    next h0 hs0 heq =>
      obtain ⟨hE5, hh9⟩ := mm_cond_inv h
      rw [← heq] at hh9
      have hE5 : E < 5 := Nat.le_of_ble_eq_true hE5
      subst hst
      obtain ⟨m1, m2, m3, hM⟩ := hCt _ _ _ _ hcall
      obtain ⟨mc', hmc'⟩ := Nat.le.dest m1
      obtain ⟨ms', hms'⟩ := Nat.le.dest m2
      have hM0 := fun q => hM mc' ms' q hmc' hms'
      have hmc' : mm_co S + mc' = mm_co S' := hmc'
      have hms' : mm_sl ck S + ms' = mm_sl ck S' := hms'
      have hzS : mm_rS (.inl z') = S' := mm_hs_mo _ hh9
      have hzS : z'.2.2.2 = S' := hzS
      rw [hzS] at hRc hRs
      obtain ⟨l1, l2, ⟨C, T9, N9⟩, hc1, l3⟩ := hML
      obtain ⟨hx, hb, hml, hown, hts⟩ := X
      intro ls H locs cells slots hL hR T hT XT
      have hsz := mm_size XT hT hR hB hex
      obtain ⟨hP, hS, hco, hsl, hnx⟩ := id hR
      have hco : mm_co S0 + cells = mm_co S := hco
      have hsl : mm_sl ck S0 + slots = mm_sl ck S := hsl
      have hnx : S0.2.2 ≤ S.2.2 := hnx
      have m3 : S.2.2 ≤ S'.2.2 := m3
      have hM := hM0 (by omega)
      rw [hy, hcw] at hM
      obtain ⟨cellB, r1, r2, r3⟩ := va_recv hK hP hc1 (mm_ws_at ha)
      obtain ⟨q, st₀, t, T', L1, h0', hW, X', hL1, e1, e2, hq, hst⟩ := mm_thrV XT hx (C := C) hown (hts _ l1) (hts _ l2) (hts _ l3) hCE.2.2.2.1 hM (mm_QO.thr (n := E) rfl) (mm_Pc.blind hTT _ _) (hCE.toR hTT hts hRf hRl) (by rw [hT]; exact r1) r2 r3
        (g := F0 m pc ls ((as.reverse ++ .ref a :: rest).map (mm_v B b))) rfl (hL.1.trans hml.symm) (argsL := as.map (mm_v B b)) (rest := rest.map (mm_v B b)) (fun sig hsig => by have h5 := hCE.2.2.2.2.1; rw [hsig] at h5; rw [List.length_map, hn]; exact (Option.some.inj h5).symm) (mm_map_args _ _ _) (lv_room (by rw [mm_wt_eq]; exact hwt)) (by rw [hb]; exact hd)
        ⟨by omega, by omega⟩ (fun U hU hW => mm_pre (T := T) (as := .ref a :: as) hTT hE hR hsz U (hU.trans hT) hW)
      obtain ⟨ho1, hP1, hF, -⟩ := hq
      obtain ⟨q2, ce, hq2, hce, hcv, hcl⟩ := ho1
      cases hq2
      have hS' := mm_after (h0'.trans hT) e1 hS hL1 hF
      have hcl9 : s.vm.findClass (ex E) = some ce.cls := by rw [← hcl, hW.alike.findClass]
      have hpl : e.platform.magicAccessors = ({} : Platform).magicAccessors := by rw [XT.admits.platform]
      obtain ⟨t9, hRw, hrow⟩ := mm_hs_spec hpl hown hts hE.2.2.2.2.2.1 hcl9 hE5 me.hs c.exceptionTable.toList htab hok hh9
      obtain ⟨vm', X2, hst2⟩ := mm_caught X' (g := F0 m pc ls (rest.map (mm_v B b))) rfl (a := q) (by rw [e1]; exact hce) hcv (by obtain ⟨k9, h9, -⟩ := Vm.findClass_spec hcl9; exact ⟨k9, h9⟩) hRw
      have hRz : mm_Rz D cl ck ak dA B b s.heap S0 S' T'.heap (locs ++ L1) (cells + mc') (slots + ms') := ⟨by rw [e1]; exact hP1, hS', by omega, by omega, by omega⟩
      have K : W p l e R s m args below meth c T'.heap (locs ++ L1) (cells + mc') (slots + ms') Q (F0 m t9 ls [.ref q]) := by
        rcases hrow with ⟨i, n9, hdi, hz⟩ | ⟨i, n9, hdi, hz⟩
        · obtain ⟨d1, d2, d3⟩ := hdec t9 _ _ hdi
          cases hz
          rw [d2 (by simp [mm_len])] at d1
          simp only [mm_sti] at d3
          exact lv_astore_n hx hb d1 rfl hL.has (by omega) rfl (fun ls' hl' => kJ ls' T'.heap _ _ _ (mm_LR.clr hl') hRz)
        · obtain ⟨d1, d2, d3⟩ := hdec t9 _ _ hdi
          cases hz
          rw [d2 (by simp [mm_len])] at d1
          simp only [mm_sti] at d3
          exact lv_astore hx hb d1 hL.has (by omega) rfl (fun ls' hl' => kJ ls' T'.heap _ _ _ (mm_LR.clr hl') hRz)
      obtain ⟨t2, a1, b1⟩ := K (T'.setVm vm') rfl X2
      exact ⟨t2, hst.trans (hst2 _ a1), b1⟩
end HANDJ
