section INV3
variable {p : Program} {l : Launch} {e : Env} {R : Room} {s : State} {m : MethodId} {args : Array Value} {below : List Frame} {meth : Method} {c : Code} {Q : State → Prop} {H : Heap} {locs : List Loc} {cells slots : Nat} {ls : Array Slot}
variable {D : va_G} {cl : List vw_C} {tys : List (ClassId × FieldType)} {ck : Nat → List Nat} {ct : Nat → Nat → FieldType} {ak : Nat → FieldType} {dA : Nat → ClassId} {B b Ls nL pc : Nat} {xs : Nat → Int32} {TT : List Cond} {strs : List (String × Nat × String)} {nc : List (String × String)} {cc : ByteArray} {own : String} {me : mm_Me} {L : mm_L} {st : List Value} {S S0 : mm_St} {z' : mm_Z} {ex : Nat → String} {mc ms : Nat}
variable {call : Nat → List Value → mm_St → Option mm_O} {yj : Nat → MethodName} {cw : Nat → Cond} {d : Nat}
/-- a callee with handlers: its words, but how it is linked -/
def mm_CEW (TT : List Cond) (y : MethodName) (bytes : ByteArray) (maxL n : Nat) (ret : Option FieldType) (hh : List (Nat × Nat × Nat × Nat)) : Prop :=
  Cond.codeWith y bytes maxL ret hh ∈ TT ∧ Cond.initialized y.cls ∈ TT ∧ (y.cls ≠ "java/lang/invoke/MethodHandle" ∧ y.cls ≠ "java/lang/invoke/VarHandle") ∧ (parseMethodDescriptor y.desc).map (fun d => d.parameters.length) = some n ∧ maxL ≤ 21
theorem mm_runSW {ix n maxL mc' ms' : Nat} {y : MethodName} {bytes : ByteArray} {ret : Option FieldType} {hh : List (Nat × Nat × Nat × Nat)} {Pc : Array Value → State → Prop} {Qc : Array Value → State → Outcome → State → Prop} {free : Addr → Prop} {As rest : List Value} {g : JFrame} (X : CallFix p m c cc nL s args TT own) (hM : Met l y [.codeWith y bytes maxL ret hh] (mm_rm d mc' ms') Pc Qc mc' ms' free) (hCE : mm_CEW TT y bytes maxL n ret hh) (hTT : ∀ w ∈ TT, mm_wd w = true) (hRf : d + 9 ≤ R.frames) (hRl : 40 * d + 240 ≤ R.locals) (hl : (Cond.methodLink own ix y).before args s = true) (hstat : (Cond.static y).before args s = true) (hp : PreS s H Pc As)
    (hg : g.method = m) (hn : As.length = n) (hsize : g.locals.size = nL) (hstack : g.stack = As.reverse ++ rest) (hW : 2 * g.monitorRoom + (rest.map fun v => v.category).sum ≤ 8) (hdg : decode cc g.pc = .ok (.invokestatic ix, 3)) (hf : cells + mc' ≤ R.cells ∧ slots + ms' ≤ R.slots) :
    va_Run p l e R s m args below meth c H locs cells slots mc' ms' g rest (Qc As.toArray) free := by
  obtain ⟨hx, hb, hml, hown, hts⟩ := X
  obtain ⟨h1, h3, hy, h5, h6⟩ := hCE
  have hK : Back l R p e below s args y 3 8 (PreOf R mc' ms' Pc) (PostOf Qc mc' ms' free) := va_backW (hh := hh) (bytes := bytes) (maxL := maxL) (ret := ret) hM hp.1 rfl rfl (by show d + 8 + 1 ≤ _; omega) (by show 8 + (maxL + 11) + (40 * d + 200) ≤ _; omega) (fun w hw a' U hW => by rw [List.mem_singleton] at hw; subst hw; exact mm_warm hW (hTT _ h1) (hts _ h1)) (List.mem_singleton.mpr rfl) (fun a' U hW => mm_warm hW (hTT _ h3) (hts _ h3))
  obtain ⟨mk, methM, cM, hnamed, hmethM, -, -, -, -, -, -, hsigM⟩ := Cond.codeWith_spec (hts _ h1)
  have hstatic : methM.isStatic = true := Cond.static_spec hnamed hmethM hstat
  obtain ⟨kP, hkP, -⟩ := className_of_methodNamed hnamed
  have hinitP : kP.init = .initialized := Cond.initialized_spec (findClass_of_methodNamed hnamed) hkP (hts _ h3)
  have hlen : As.length = methM.sig.parameters.length := by
    rw [hsigM] at h5
    exact hn.trans (Option.some.inj h5).symm
  intro T hT X
  obtain ⟨vm₁, X₁, hstep₁⟩ := X.invokestatic hx hown hl hnamed hmethM hstatic hkP hinitP hy (g := g) hg (argsL := As) (rest := rest) hlen hstack (by rw [hb]; exact hdg)
  obtain ⟨v, ⟨U', l2, c2, s2⟩, X', ⟨g', mk', t, L1, e1, e2, hq, k1, hL, k2, k3⟩, hsteps⟩ := hK m meth c ⟨T.setVm vm₁, locs, cells, slots⟩ { g with stack := rest } (.invokestatic ix) mk As.toArray X₁ hg (hsize.trans hml.symm) (by rw [hb]; exact hdg) hW (X₁.named hnamed) ⟨hf.1, hf.2, hp.2 (T.setVm vm₁) hT X₁.warmed⟩
  dsimp only [Pt.U, Pt.locs, Pt.cells, Pt.slots] at X' e1 e2 k1 k2 k3 hsteps
  subst k1; subst k2; subst k3
  exact ⟨v, (T.setVm vm₁).calling g' mk' As.toArray, t, U', L1, hT, X', hL, e1, e2, hq, fun tg h => hstep₁ _ fun acts => by rw [doInvoke_state]; exact hsteps.trans h⟩
/-- a static method that has handlers -/
theorem mm_k_invSW {ix j n maxL : Nat} {hh9 : List (Nat × Nat × Nat × Nat)} {y : MethodName} {bytes : ByteArray} {ret : Option FieldType} (X : CallFix p m c cc nL s args TT own) (hK : va_K D cl tys s) (hTT : ∀ w ∈ TT, mm_wd w = true) (hE : mm_Env D cl tys TT strs nc B b Ls xs s) (hB : B ≤ s.heap.size) (hex : S0.2.2 = 0 → s.heap.size = B + S0.1.length) (hCt : mm_Ct l D cl tys TT strs nc B b Ls xs ck ak dA ex yj cw d call) (hy : yj j = y) (hcw : cw j = .codeWith y bytes maxL ret hh9)
    (hCE : mm_CEW TT y bytes maxL n ret hh9) (hML : Cond.methodLink own ix y ∈ TT ∧ Cond.static y ∈ TT) (hRb : R.slots ≤ 60000000) (hRf : d + 9 ≤ R.frames) (hRl : 40 * d + 240 ≤ R.locals) (hRc : mm_co z'.2.2.2 ≤ mm_co S0 + R.cells) (hRs : mm_sl ck z'.2.2.2 ≤ mm_sl ck S0 + R.slots) (hd : decode cc pc = .ok (.invokestatic ix, 3)) (hh : me.hs = [])
    (h : mm_invS call me pc L st S j n = some (.inl z')) (kJ : mm_J p l e R s m args below meth c Q B b nL (mm_Rz D cl ck ak dA B b s.heap S0) z') : mm_J p l e R s m args below meth c Q B b nL (mm_Rz D cl ck ak dA B b s.heap S0) (pc, L, st, S) := by
  obtain ⟨as, rest, rfl, hn, hwt, h⟩ := mm_invS_inv h
  rcases mm_back_inv hh h with ⟨v, S', hcall, hz⟩ | ⟨E, S', hcall, hz⟩
  · cases hz
    obtain ⟨m1, m2, m3, hM⟩ := hCt _ _ _ _ hcall
    obtain ⟨mc', hmc'⟩ := Nat.le.dest m1
    obtain ⟨ms', hms'⟩ := Nat.le.dest m2
    have hM0 := fun q => hM mc' ms' q hmc' hms'
    have hmc' : mm_co S + mc' = mm_co S' := hmc'
    have hms' : mm_sl ck S + ms' = mm_sl ck S' := hms'
    obtain ⟨l1, l2⟩ := hML
    have hX := X
    obtain ⟨hx, hb, hml, hown, hts⟩ := X
    intro ls H locs cells slots hL hR T hT XT
    have hsz := mm_size XT hT hR hB hex
    obtain ⟨hP, hS, hco, hsl, hnx⟩ := id hR
    have hco : mm_co S0 + cells = mm_co S := hco
    have hsl : mm_sl ck S0 + slots = mm_sl ck S := hsl
    have hM := hM0 (by have : mm_sl ck S' ≤ mm_sl ck S0 + R.slots := hRs; omega)
    rw [hy, hcw] at hM
    have hr := mm_runSW (e := e) (below := below) (meth := meth) (H := H) (locs := locs) (cells := cells) (slots := slots) (As := as.map (mm_v B b)) (rest := rest.map (mm_v B b)) (n := n) (g := F0 m pc ls ((as.reverse ++ rest).map (mm_v B b))) hX (mm_QO.met (v := v) rfl hM) hCE hTT hRf hRl (hts _ l1) (hts _ l2)
      ⟨mm_Pc.blind hTT _ _, mm_pre (T := T) (as := as) hTT hE hR hsz⟩ rfl (by simp [hn]) hL.1 (mm_map_argsS _ _) (lv_room (by rw [mm_wt_eq]; exact hwt)) hd
      ⟨by have : mm_co S' ≤ mm_co S0 + R.cells := hRc; omega, by have : mm_sl ck S' ≤ mm_sl ck S0 + R.slots := hRs; omega⟩
    refine mm_run_ret (Q := Q) (v := v) hr rfl hS (fun H1 locs1 hP1 hS1 => ?_) T hT XT
    have k9 := kJ ls H1 locs1 (cells + mc') (slots + ms') hL ⟨hP1, hS1, by show mm_co S0 + (cells + mc') = mm_co S'; omega, by show mm_sl ck S0 + (slots + ms') = mm_sl ck S'; omega, by show S0.2.2 ≤ S'.2.2; have : S0.2.2 ≤ S.2.2 := hnx; have : S.2.2 ≤ S'.2.2 := m3; omega⟩
    have e9 : (v.toList ++ []).map (mm_v B b) ++ rest.map (mm_v B b) = (v.toList ++ rest).map (mm_v B b) := by simp
    rw [e9]
    exact k9
  · cases hz
end INV3
