section METW
variable {l : Launch} {D : va_G} {cl : List vw_C} {tys : List (ClassId × FieldType)} {ck : Nat → List Nat} {ct : Nat → Nat → FieldType} {ak : Nat → FieldType} {dA : Nat → ClassId} {B b Ls : Nat} {xs : Nat → Int32} {TT : List Cond} {strs : List (String × Nat × String)} {nc : List (String × String)} {me : mm_Me} {S : mm_St} {ex : Nat → String} {mc ms : Nat}
variable {call : Nat → List Value → mm_St → Option mm_O} {yj : Nat → MethodName} {cw : Nat → Cond} {d : Nat} {y : MethodName} {bytes : ByteArray} {ret : Option FieldType}
theorem mm_metW {o : mm_O} {as : List Value} (hpl : plainFor y = true) (hTB : mm_TB cl ck ct ak TT) (hAT : mm_AT tys ak dA) (hM : mm_MOK cl ak TT strs ex yj cw y bytes ret me) (hall : ∀ (pc : Nat) (i : Instr) (n : Nat), me.dec[pc]? = some (some (i, n)) → mm_isH i = true) (hne : me.hs ≠ []) (hrk : me.rk = 0) (hok : mm_HOK TT nc ex y.cls me) (hCt : mm_Ct l D cl tys TT strs nc B b Ls xs ck ak dA ex yj cw d call) (hw : mm_wt as ≤ me.nL) (hR : mm_R (mm_step call xs Ls ck ak me) (0, mm_pad (mm_in as) me.nL, [], S) o) (hb : ms ≤ 60000000) (hmc : mm_co S + mc = mm_co o.2) (hms : mm_sl ck S + ms = mm_sl ck o.2) :
    MetFree l y (headSpec [.codeWith y bytes me.nL ret me.hs] (mm_rm (d + 1) mc ms)) (mm_Pc D cl tys TT strs nc B b Ls xs ck ak dA as S) (fun _ _ _ _ _ => True) (mm_QO D cl B b ck ak dA ex o mc ms) := by
  obtain ⟨n, hn⟩ := hR
  refine MetFree.of_bodySF (code := bytes) (maxLocals := me.nL) (ret := ret) hpl ?_ ?_
  · intro args s m h hn9
    obtain ⟨m9, meth, c, hn8, h1, h2, h3, h4, -, h5, h6, -⟩ := Cond.codeWith_spec (atoms_spec (ws := [.codeWith y bytes me.nL ret me.hs]) h _ List.mem_cons_self)
    cases hn9.symm.trans hn8
    exact ⟨meth, c, h1, h2, h3, h4, h5, h6⟩
  · intro p e s m args below meth c s₁ B9 hml hP _
    obtain ⟨rfl, hE, hPP, hsz⟩ := hP
    have hcode := atoms_spec (ws := [.codeWith y bytes me.nL ret me.hs]) B9.pre _ List.mem_cons_self
    have htab : c.exceptionTable.toList.map (fun h => (h.startPc, h.endPc, h.handlerPc, h.catchType)) = me.hs := by
      obtain ⟨m9, meth9, c9, hn8, h1, h2, -, -, h7, -⟩ := Cond.codeWith_spec hcode
      cases B9.named.symm.trans hn8
      cases Option.some.inj (h1.symm.trans B9.method)
      cases Option.some.inj (h2.symm.trans (Stand.of_body B9).code)
      exact h7
    have hh0 : s₁.heap = s.heap := by rw [B9.state]; rfl
    have hFR : mm_FRH p l (headSpec [.codeWith y bytes me.nL ret me.hs] (mm_rm (d + 1) mc ms)).room s m (as.map (mm_v B b)).toArray meth c D cl tys ak dA TT strs nc B b Ls xs S d y bytes ret me :=
      ⟨⟨B9.exec, B9.bytes, hml, findClass_of_methodNamed B9.named, fun w hw => mm_warm (State.WarmedH.refl s) (hTB.2.2.1 w hw) (hE.1 w hw)⟩, hE.2.1, hAT, hE, hE.2.2.2.2.2.2.2.2, hsz, B9.returns, B9.notSynchronized, htab, by show d + 9 ≤ d + 1 + 8; omega, by show 40 * d + 240 ≤ 40 * (d + 1) + 200; omega, hb⟩
    have hJ := (mm_walkH (e := e) (below := below) hTB hM hall hne hrk hok hFR hCt (Nat.le_refl _) (Nat.le_refl _) hmc hms n _ hn).2
    have hlv := lv_entry (as.map (mm_v B b)) (n := me.nL) (by rw [mm_sl_len]; exact hw)
    have hLR : mm_LR B b ((lg_sl (as.map (mm_v B b)) ++ List.replicate (me.nL - (lg_sl (as.map (mm_v B b))).length) Slot.unset).toArray) me.nL (mm_pad (mm_in as) me.nL) :=
      ⟨hlv.1, hlv.2.1, fun i v hv => hlv.2.2 (i, mm_v B b v) (by have h9 := mm_in_args B b as 0 i v (mm_pad_ld _ _ _ _ hv); rw [Nat.zero_add] at h9; exact h9)⟩
    have hW := hJ _ s.heap [] 0 0 hLR ⟨hPP, va_S.rf, rfl, rfl, Nat.le_refl _⟩
    have K : W p l e (headSpec [.codeWith y bytes me.nL ret me.hs] (mm_rm (d + 1) mc ms)).room s m (as.map (mm_v B b)).toArray below meth c s₁.heap [] 0 0 (mm_E below (as.map (mm_v B b)).toArray s D cl B b ck ak dA ex o mc ms) (entryFrame m (as.map (mm_v B b)).toArray me.nL) := by
      rw [hh0, lg_entry_eq]
      exact hW
    obtain ⟨t, a1, oc, b1, b2, b3⟩ := K s₁ rfl (Stand.of_body B9)
    exact ⟨t, oc, a1, b1, b2, b3⟩
/-- what is checked of a method, once for all -/
def mm_ok (cl : List vw_C) (ak : Nat → FieldType) (TT : List Cond) (strs : List (String × Nat × String)) (nc : List (String × String)) (ex : Nat → String) (yj : Nat → MethodName) (cw : Nat → Cond) (bj : Nat → ByteArray) (rj : Nat → Option FieldType) (mj : Nat → mm_Me) (j : Nat) : Prop :=
  plainFor (yj j) = true ∧ mm_MOK cl ak TT strs ex yj cw (yj j) (bj j) (rj j) (mj j) ∧
  (((mj j).hs = [] ∧ cw j = .code (yj j) (bj j) (mj j).nL (rj j)) ∨ ((mj j).hs ≠ [] ∧ cw j = .codeWith (yj j) (bj j) (mj j).nL (rj j) (mj j).hs ∧ (∀ (pc : Nat) (i : Instr) (n : Nat), (mj j).dec[pc]? = some (some (i, n)) → mm_isH i = true) ∧ (mj j).rk = 0 ∧ mm_HOK TT nc ex (yj j).cls (mj j)))
theorem mm_mono {xs : Nat → Int32} {mj : Nat → mm_Me} : ∀ (d j : Nat) (as : List Value) (S : mm_St) (o : mm_O), mm_ev xs Ls ck ak mj d j as S = some o → mm_mo ck S o.2 := by
  intro d
  induction d with
  | zero => intro j as S o h; cases h
  | succ d ih =>
    intro j as S o h
    obtain ⟨-, n, hn⟩ := (mm_ev_iff xs Ls ck ak mj).mp h
    have key : ∀ (n : Nat) (z : mm_Z), mm_ex (mm_step (mm_ev xs Ls ck ak mj d) xs Ls ck ak (mj j)) n z = some o → mm_mo ck z.2.2.2 o.2 := by
      intro n
      induction n with
      | zero => intro z h; cases h
      | succ n ih2 =>
        intro z h
        rcases (mm_R.cs ⟨n + 1, h⟩ : _ ∨ _) with ⟨z', hz, hr⟩ | hz
        · have h1 : mm_mo ck z.2.2.2 z'.2.2.2 := by
            unfold mm_step at hz
            split at hz
            · exact mm_do_mo ih _ hz
            · cases hz
          rw [mm_ex_go hz] at h
          exact h1.tr (ih2 z' h)
        · unfold mm_step at hz
          split at hz
          · exact mm_do_mo ih _ hz
          · cases hz
    exact key n _ hn
/-- THE SMALL MACHINE TELLS WHAT THE JVM DOES -/
theorem mm_sim {mj : Nat → mm_Me} {bj : Nat → ByteArray} {rj : Nat → Option FieldType} (hl : l.stackTraces = false) (hTB : mm_TB cl ck ct ak TT) (hAT : mm_AT tys ak dA) (hok : ∀ j, mm_ok cl ak TT strs nc ex yj cw bj rj mj j) : ∀ d, mm_Ct l D cl tys TT strs nc B b Ls xs ck ak dA ex yj cw d (mm_ev xs Ls ck ak mj d) := by
  intro d
  induction d with
  | zero => intro j as S o h; cases h
  | succ d ih =>
    intro j as S o h
    obtain ⟨m1, m2, m3⟩ := mm_mono _ _ _ _ _ h
    refine ⟨m1, m2, m3, fun mc ms hb hmc hms => ?_⟩
    obtain ⟨hw, hR⟩ := (mm_ev_iff xs Ls ck ak mj).mp h
    obtain ⟨hpl, hM, ⟨hh, hcw⟩ | ⟨hh, hcw, hall, hrk, hHO⟩⟩ := hok j
    · rw [hcw]
      exact mm_met hl hpl hTB hAT hM ih hh hw hR hb hmc hms
    · rw [hcw]
      exact mm_metW hpl hTB hAT hM hall hh hrk hHO ih hw hR hb hmc hms
end METW
