/-! 'throw new E("text")' IN THE SMALL MACHINE'S WORDS -/
/-- what a throw's rows are -/
def mm_TH (TT : List Cond) (strs : List (String × Nat × String)) (cc : ByteArray) (own cls : String) (pc ik is ic : Nat) (text : String) (names : List String) : Prop :=
  Bundle.fit cls = true ∧ (∀ n ∈ names, Bundle.fit n = true) ∧ Cond.classLink own ik cls ∈ TT ∧ Cond.initialized cls ∈ TT ∧ Cond.instantiable cls 6 ∈ TT ∧ (own, is, text) ∈ strs ∧ (∃ ix rx Y r, names = Y :: r ∧ decode rx 0 = .ok (.aload_n 0, 1) ∧ decode rx 1 = .ok (.aload_n 1, 1) ∧ decode rx 2 = .ok (.invokespecial ix, 3) ∧ decode rx 5 = .ok (.return_, 1) ∧ ∀ w ∈ mm_oa own ic cls ix rx Y r, w ∈ TT ∨ w ∈ mm_HW) ∧ names.length ≤ 4 ∧
  decode cc pc = .ok (.new ik, 3) ∧ decode cc (pc + 3) = .ok (.dup, 1) ∧ decode cc (pc + 4) = .ok (.ldc is, 2) ∧ decode cc (pc + 6) = .ok (.invokespecial ic, 3) ∧ decode cc (pc + 9) = .ok (.athrow, 1)
section THROWS
variable {p : Program} {l : Launch} {e : Env} {R : Room} {s : State} {m : MethodId} {args : Array Value} {below : List Frame} {meth : Method} {c : Code} {Q : State → Prop} {H : Heap} {locs : List Loc} {cells slots : Nat} {ls : Array Slot}
variable {D : va_G} {cl : List vw_C} {tys : List (ClassId × FieldType)} {ck : Nat → List Nat} {ct : Nat → Nat → FieldType} {ak : Nat → FieldType} {dA : Nat → ClassId} {B b Ls nL pc : Nat} {xs : Nat → Int32} {TT : List Cond} {strs : List (String × Nat × String)} {nc : List (String × String)} {cc : ByteArray} {own : String} {me : mm_Me} {L : mm_L} {st : List Value} {S S0 : mm_St} {z' : mm_Z} {ex : Nat → String} {mc ms : Nat}
/-- nothing old has changed -/
theorem mm_kept {u U : State} {k n : Nat} (h : u.sameButNew ({ U with vm := u.vm } : State) [] k n) : u.heap.size ≤ U.heap.size ∧ ∀ q : Nat, q < u.heap.size → U.heap[q]? = u.heap[q]? := by
  obtain ⟨-, h2, -, -, -, h6⟩ := h
  refine ⟨h2, fun q hq => ?_⟩
  have e0 := Array.getElem?_eq_getElem hq
  obtain ⟨c9, e1, e2, e3, e4⟩ := h6 q _ e0
  have hs : c9.slots = (u.heap[q]).slots := Array.ext_getElem? fun i => e4 i (by simp)
  rw [hs] at e2
  have e5 : c9 = u.heap[q] := e2
  have e6 : U.heap[q]? = some c9 := e1
  rw [e6, e5, e0]
set_option maxHeartbeats 4000000 in
theorem mm_k_throw {E ik is ic : Nat} {text : String} {names : List String} (X : CallFix p m c cc nL s args TT own) (hl : l.stackTraces = false) (hTT : ∀ w ∈ TT, mm_wd w = true) (hE : mm_Env D cl tys TT strs nc B b Ls xs s) (hth : mm_TH TT strs cc own (ex E) pc ik is ic text names) (hexc : ∀ x ∈ c.exceptionTable.toList, False) (hlocks : meth.locks = false) (hwt : mm_wt st ≤ 8) (hfr : 8 ≤ R.frames) (hlo : 200 ≤ R.locals) (hRc : mc ≤ R.cells) (hRs : ms ≤ R.slots)
    (hmc : mm_co S0 + mc = mm_co S + 1) (hms : mm_sl ck S0 + ms = mm_sl ck S + 6) : mm_J p l e R s m args below meth c (mm_E below args s D cl B b ck ak dA ex (.inr E, (S.1, S.2.1, S.2.2 + 1)) mc ms) B b nL (mm_Rz D cl ck ak dA B b s.heap S0) (pc, L, st, S) := by
  obtain ⟨hx, hb, hml, hown, hts⟩ := X
  obtain ⟨h1, h2, h3, h4, h4b, h5, ⟨ix9, rx9, Y9, r9, rfl, x0, x1, x2, x5, h6⟩, h8, d0, d3, d4, d6, d9⟩ := hth
  intro ls H locs cells slots hL hR
  obtain ⟨hP, hS, hco, hsl, hnx⟩ := hR
  have hco : mm_co S0 + cells = mm_co S := hco
  have hsl : mm_sl ck S0 + slots = mm_sl ck S := hsl
  intro T hT X
  have htr : e.platform.stackTraces = false := (show e.platform.stackTraces = l.stackTraces by rw [X.admits.platform]).trans hl
  obtain ⟨s', hv', hh', X', hback⟩ := mm_anew X (by omega) (by omega)
  have hW0 : s.WarmedH s'.vm := by rw [hv']; exact State.WarmedH.refl s
  have hE' : mm_Env D cl tys TT strs nc B b Ls xs s' := hE.moved hTT hW0 (hh'.trans hT) hS
  have hts' : ∀ w ∈ TT, w.before args s' = true := fun w hw => mm_warm hW0 (hTT w hw) (hts w hw)
  have hown' : s'.vm.findClass own = some m.cls := by rw [hv']; exact hown
  have hat : ∀ w ∈ mm_oa own ic (ex E) ix9 rx9 Y9 r9, w.before args s' = true := fun w hw => (h6 w hw).elim (hts' w) (fun q => hE'.HW w q args)
  obtain ⟨sa, hsa⟩ := hE'.2.2.2.2.1 _ h5
  have K : W p l e { frames := R.frames, locals := R.locals, cells := 1, slots := 6 } s' m args below meth c T.heap [] 0 0 (mm_E below args s D cl B b ck ak dA ex (.inr E, (S.1, S.2.1, S.2.2 + 1)) mc ms) (F0 m pc ls (st.map (mm_v B b))) := by
    refine W.newc hx hb hown' (hts' _ h3) (hts' _ h4b) (hts' _ h4) (g := F0 m pc ls (st.map (mm_v B b))) rfl d0 (Nat.le_refl _) (Nat.le_refl _) (fun cC kC k1 k2 k3 k4 => ?_)
    refine lv_dup (pc := pc + 3) hx hb d3 rfl ?_
    refine va_ldcS (pc := pc + 4) hx hb hown' hsa d4 ?_
    intro T2 hT2 X2
    obtain ⟨U, hsteps, hrun, hend, hW, hsame, ce, hce, hO⟩ := mm_ctorX X2 hx htr (own := own) (cls := ex E) (Y0 := Y9) (r0 := r9) (ic := ic) x0 x1 x2 x5 hown' h1 h2 hat (fun x hx => nomatch hx) k1 k2 (a := T.heap.size) (by rw [hT2, Array.getElem?_push_size]) (by rw [hh']; exact Nat.le_refl _) (msg := .ref sa) rfl
      (g := F0 m (pc + 6) ls (.ref sa :: .ref T.heap.size :: .ref T.heap.size :: st.map (mm_v B b))) rfl (hL.1.trans hml.symm) rfl rfl (rest := st.map (mm_v B b)) rfl (by rw [hb]; exact d6) (by rw [hb]; exact d9) (fun x hx => (hexc x hx).elim) (by show (Y9 :: r9).length + 3 < R.frames; omega)
      (by
        have hw := mm_wt_eq B b st
        simp only [List.map_cons, List.sum_cons] at hw ⊢
        rw [hw]
        show 0 + (1 + mm_wt st) + (13 * ((Y9 :: r9).length + 1) + 42) ≤ R.locals
        omega) hlocks
    obtain ⟨f1, f2⟩ := mm_kept hsame
    rw [hh'] at f1 f2
    rw [hT] at f1 f2
    have hcl : s.vm.findClass (ex E) = some ce.cls := by
      have h9 := hO.1
      rw [hv'] at h9
      exact h9
    refine ⟨U, hsteps, .threw T.heap.size, hrun, hend, ⟨T.heap.size, ce, rfl, hce, hO.2, hcl⟩, ?_, ⟨Nat.le_trans hS.1 f1, fun q hq hA => (f2 q (Nat.lt_of_lt_of_le hq hS.1)).trans (hS.2.1 q hq hA)⟩, State.WarmedH.trans hW0 hW, locs, (hback U hsame).mono (by omega) (by omega), fun z hz => hS.2.2 z hz⟩
    exact hP.kept fun k q hk => f2 q.1 (hP k q hk).lt
  exact K T rfl X'
end THROWS
