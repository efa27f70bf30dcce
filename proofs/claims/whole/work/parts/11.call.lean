/-! CALLS, AND A METHOD'S END -/
/-- a word that stays when entries are resolved -/
def mm_wd : Cond → Bool
  | .castable _ _ => true
  | .declares _ => true
  | .arrayOver (.object _) => true
  | w => goodWord w
theorem mm_warm {args a' : Array Value} {s U : State} {w : Cond} (hW : s.WarmedH U.vm) (hw : mm_wd w = true) (h : w.before args s = true) : w.before a' U = true := by
  unfold mm_wd at hw
  split at hw
  next C T => exact va_Nw.use rfl (va_Nw.warmC hW (va_Nw.of rfl h))
  next x => exact va_Nw.use rfl (va_Nw.warmD hW (va_Nw.of rfl h))
  next C => exact va_AO.use (va_AO.moved hW.alike (va_AO.of h))
  next => exact word_at hW (good_of_word hw) h
/-- the words of a throw that speak of the heap -/
def mm_HW : List Cond := [.isRef (.static Bundle.tN "UNASSIGNED_STACK" Bundle.steD), .isRef (.static Bundle.tN "SUPPRESSED_SENTINEL" Bundle.listD), .laysStatic Bundle.tN "UNASSIGNED_STACK" Bundle.steD, .laysStatic Bundle.tN "SUPPRESSED_SENTINEL" Bundle.listD]
/-- what stands at every call: the tables' words, the classes, what a throw needs, the script, classes that are no casts of each other -/
def mm_Env (D : va_G) (cl : List vw_C) (tys : List (ClassId × FieldType)) (TT : List Cond) (strs : List (String × Nat × String)) (nc : List (String × String)) (B b Ls : Nat) (xs : Nat → Int32) (U : State) : Prop :=
  (∀ w ∈ TT, w.before #[] U = true) ∧ va_K D cl tys U ∧ mm_SF Bundle.tN "UNASSIGNED_STACK" Bundle.steD B U U.heap ∧ mm_SF Bundle.tN "SUPPRESSED_SENTINEL" Bundle.listD B U U.heap ∧ (∀ q ∈ strs, ∃ a, vk_R q.1 q.2.1 q.2.2 a U) ∧ (∀ q ∈ nc, va_Nc q.1 q.2 U) ∧ va_X b Ls xs U U.heap ∧ b < B ∧ B ≤ U.heap.size
section CALL
variable {p : Program} {l : Launch} {e : Env} {R : Room} {s : State} {m : MethodId} {args : Array Value} {below : List Frame} {meth : Method} {c : Code} {Q : State → Prop} {H : Heap} {locs : List Loc} {cells slots : Nat} {ls : Array Slot}
variable {D : va_G} {cl : List vw_C} {tys : List (ClassId × FieldType)} {ck : Nat → List Nat} {ct : Nat → Nat → FieldType} {ak : Nat → FieldType} {dA : Nat → ClassId} {B b Ls nL pc : Nat} {xs : Nat → Int32} {TT : List Cond} {strs : List (String × Nat × String)} {nc : List (String × String)} {cc : ByteArray} {own : String} {me : mm_Me} {L : mm_L} {st : List Value} {S S0 : mm_St} {z' : mm_Z} {ex : Nat → String} {mc ms : Nat}
theorem mm_Env.moved {U : State} (hTT : ∀ w ∈ TT, mm_wd w = true) (hW : s.WarmedH U.vm) (hU : U.heap = H) (hS : va_S (fun q => B ≤ q) s.heap H locs) (h : mm_Env D cl tys TT strs nc B b Ls xs s) : mm_Env D cl tys TT strs nc B b Ls xs U := by
  obtain ⟨h1, h2, h3, h4, h5, h6, h7, h8, h9⟩ := h
  subst hU
  have hk : ∀ a : Nat, a < B → U.heap[a]? = s.heap[a]? := fun a ha => hS.2.1 a (by omega) (by show ¬ B ≤ a; omega)
  refine ⟨fun w hw => mm_warm hW (hTT w hw) (h1 w hw), va_K.moved hW.alike h2, h3.to hW.alike hk, h4.to hW.alike hk, fun q hq => ?_, fun q hq => (h6 q hq).moved hW.alike, va_X.moved hW.alike (h7.kept (hk b h8)), h8, Nat.le_trans h9 hS.1⟩
  obtain ⟨a, ha⟩ := h5 q hq
  exact ⟨a, vk_R.warm hW ha⟩
theorem mm_Env.HW {U : State} (h : mm_Env D cl tys TT strs nc B b Ls xs U) : ∀ w ∈ mm_HW, ∀ a : Array Value, w.before a U = true := by
  obtain ⟨-, -, h3, h4, -⟩ := h
  intro w hw a
  simp only [mm_HW, List.mem_cons, List.mem_nil_iff, or_false] at hw
  rcases hw with rfl | rfl | rfl | rfl
  · exact h3.ref
  · exact h4.ref
  · exact h3.lays
  · exact h4.lays
def mm_Pc (D : va_G) (cl : List vw_C) (tys : List (ClassId × FieldType)) (TT : List Cond) (strs : List (String × Nat × String)) (nc : List (String × String)) (B b Ls : Nat) (xs : Nat → Int32) (ck : Nat → List Nat) (ak : Nat → FieldType) (dA : Nat → ClassId) (as : List Value) (S : mm_St) : Array Value → State → Prop := fun a U =>
  a = (as.map (mm_v B b)).toArray ∧ mm_Env D cl tys TT strs nc B b Ls xs U ∧ va_P D cl (mm_ws ck ak dA B b S.1 S.2.1) U.heap ∧ (S.2.2 = 0 → U.heap.size = B + S.1.length)
/-- how a method has ended, as the small machine has it -/
def mm_Out (B b : Nat) (ex : Nat → String) (r : Option Value ⊕ Nat) (oc : Outcome) (st t : State) : Prop := match r with
  | .inl v => oc = .returned (v.map (mm_v B b))
  | .inr n => ∃ (q : Addr) (ce : Cell), oc = .threw q ∧ t.heap[q]? = some ce ∧ ce.vm = .none ∧ st.vm.findClass (ex n) = some ce.cls
def mm_QO (D : va_G) (cl : List vw_C) (B b : Nat) (ck : Nat → List Nat) (ak : Nat → FieldType) (dA : Nat → ClassId) (ex : Nat → String) (o : mm_O) (mc ms : Nat) : Array Value → State → Outcome → State → Prop := fun _ st oc t =>
  mm_Out B b ex o.1 oc st t ∧ va_P D cl (mm_ws ck ak dA B b o.2.1 o.2.2.1) t.heap ∧ va_F (fun q => B ≤ q) st t ∧ st.WarmedH t.vm ∧ ∃ Lc, st.sameButNew ({ t with vm := st.vm } : State) Lc mc ms ∧ ∀ z ∈ Lc, B ≤ z.base
/-- what a method's frame comes to -/
def mm_E (below : List Frame) (args : Array Value) (s : State) (D : va_G) (cl : List vw_C) (B b : Nat) (ck : Nat → List Nat) (ak : Nat → FieldType) (dA : Nat → ClassId) (ex : Nat → String) (o : mm_O) (mc ms : Nat) : State → Prop := fun t => ∃ oc, t.status = .running ∧ Ended t below oc ∧ mm_QO D cl B b ck ak dA ex o mc ms args s oc t
theorem mm_Pc.blind (hTT : ∀ w ∈ TT, mm_wd w = true) (as : List Value) (S : mm_St) : FrameBlind (mm_Pc D cl tys TT strs nc B b Ls xs ck ak dA as S) := by
  intro a U g mk h
  obtain ⟨h1, h2, h3, h4⟩ := h
  exact ⟨h1, mm_Env.moved (s := U) (U := U.calling g mk a) (locs := []) hTT (State.WarmedH.refl U) rfl va_S.rf h2, h3, h4⟩
/-- the kit's end of a method that returns -/
theorem mm_ret {v : Option Value} {g : JFrame} (hR : mm_Rz D cl ck ak dA B b s.heap S0 S H locs cells slots) (hmc : cells ≤ mc) (hms : slots ≤ ms)
    (k : ∀ Qc : Array Value → State → Outcome → State → Prop, (∀ t : State, t.heap = H → s.WarmedH t.vm → Qc args s (.returned (v.map (mm_v B b))) t) → W p l e R s m args below meth c H locs cells slots (MQ below Qc args s cells slots (fun q => B ≤ q)) g) :
    W p l e R s m args below meth c H locs cells slots (mm_E below args s D cl B b ck ak dA ex (.inl v, S) mc ms) g := by
  have k1 := k (fun _ st oc t => oc = .returned (v.map (mm_v B b)) ∧ t.heap = H ∧ st.WarmedH t.vm) (fun t ht hW => ⟨rfl, ht, hW⟩)
  intro T hT X
  obtain ⟨t, a1, oc, b1, b2, ⟨b3, b4, b5⟩, Lc, ⟨-, b6, b7⟩, b8⟩ := k1 T hT X
  exact ⟨t, a1, oc, b1, b2, b3, by rw [b4]; exact hR.1, hR.2.1.F b4, b5, Lc, b7.mono hmc hms, b8⟩
theorem mm_cs (hR : mm_Rz D cl ck ak dA B b s.heap S0 S H locs cells slots) (hmc : mm_co S0 + mc = mm_co S) (hms : mm_sl ck S0 + ms = mm_sl ck S) : cells ≤ mc ∧ slots ≤ ms := by
  have h1 := hR.2.2.1
  have h2 := hR.2.2.2.1
  omega
theorem mm_k_ireturn {x : Int32} {ty : FieldType} (X : CallFix p m c cc nL s args TT own) (hr : meth.sig.returnType = some ty) (hty : narrow ty (.int x) = .int x) (hlocks : meth.locks = false) (hmc : mm_co S0 + mc = mm_co S) (hms : mm_sl ck S0 + ms = mm_sl ck S) (hd : decode cc pc = .ok (.ireturn, 1)) :
    mm_J p l e R s m args below meth c (mm_E below args s D cl B b ck ak dA ex (.inl (some (.int x)), S) mc ms) B b nL (mm_Rz D cl ck ak dA B b s.heap S0) (pc, L, [.int x], S) := by
  intro ls H locs cells slots hL hR
  obtain ⟨hx, hb, hml, hown, hts⟩ := X
  obtain ⟨e1, e2⟩ := mm_cs hR hmc hms
  exact mm_ret hR e1 e2 (fun Qc hq => W.zret (v := x) hx hb hr hty hq hR.2.1.2.2 hd)
theorem mm_k_lreturn {x : Int64} (X : CallFix p m c cc nL s args TT own) (hr : meth.sig.returnType = some .long) (hlocks : meth.locks = false) (hmc : mm_co S0 + mc = mm_co S) (hms : mm_sl ck S0 + ms = mm_sl ck S) (hd : decode cc pc = .ok (.lreturn, 1)) :
    mm_J p l e R s m args below meth c (mm_E below args s D cl B b ck ak dA ex (.inl (some (.long x)), S) mc ms) B b nL (mm_Rz D cl ck ak dA B b s.heap S0) (pc, L, [.long x], S) := by
  intro ls H locs cells slots hL hR
  obtain ⟨hx, hb, hml, hown, hts⟩ := X
  obtain ⟨e1, e2⟩ := mm_cs hR hmc hms
  exact mm_ret hR e1 e2 (fun Qc hq => W.lret (v := x) hx hb hr hq hR.2.1.2.2 hd)
theorem mm_k_dreturn {x : UInt64} (X : CallFix p m c cc nL s args TT own) (hr : meth.sig.returnType = some .double) (hlocks : meth.locks = false) (hmc : mm_co S0 + mc = mm_co S) (hms : mm_sl ck S0 + ms = mm_sl ck S) (hd : decode cc pc = .ok (.dreturn, 1)) :
    mm_J p l e R s m args below meth c (mm_E below args s D cl B b ck ak dA ex (.inl (some (.double x)), S) mc ms) B b nL (mm_Rz D cl ck ak dA B b s.heap S0) (pc, L, [.double x], S) := by
  intro ls H locs cells slots hL hR
  obtain ⟨hx, hb, hml, hown, hts⟩ := X
  obtain ⟨e1, e2⟩ := mm_cs hR hmc hms
  exact mm_ret hR e1 e2 (fun Qc hq => W.dret (v := x) hx hb hr hq hR.2.1.2.2 hd)
theorem mm_k_areturn {v : Value} {rt : FieldType} (hv : v = .null ∨ ∃ a, v = .ref a) (X : CallFix p m c cc nL s args TT own) (hr : meth.sig.returnType = some rt) (hrt : (∃ n, rt = .object n) ∨ ∃ t, rt = .array t) (hlocks : meth.locks = false) (hmc : mm_co S0 + mc = mm_co S) (hms : mm_sl ck S0 + ms = mm_sl ck S) (hd : decode cc pc = .ok (.areturn, 1)) :
    mm_J p l e R s m args below meth c (mm_E below args s D cl B b ck ak dA ex (.inl (some v), S) mc ms) B b nL (mm_Rz D cl ck ak dA B b s.heap S0) (pc, L, [v], S) := by
  intro ls H locs cells slots hL hR
  obtain ⟨hx, hb, hml, hown, hts⟩ := X
  obtain ⟨e1, e2⟩ := mm_cs hR hmc hms
  exact mm_ret hR e1 e2 (fun Qc hq => W.aret (v := mm_v B b v) hx hb hr hrt (by rcases hv with rfl | ⟨a, rfl⟩; exact Or.inl rfl; exact Or.inr ⟨_, rfl⟩) hq hR.2.1.2.2 hd)
theorem mm_k_return (X : CallFix p m c cc nL s args TT own) (hr : meth.sig.returnType = none) (hlocks : meth.locks = false) (hmc : mm_co S0 + mc = mm_co S) (hms : mm_sl ck S0 + ms = mm_sl ck S) (hd : decode cc pc = .ok (.return_, 1)) :
    mm_J p l e R s m args below meth c (mm_E below args s D cl B b ck ak dA ex (.inl none, S) mc ms) B b nL (mm_Rz D cl ck ak dA B b s.heap S0) (pc, L, [], S) := by
  intro ls H locs cells slots hL hR
  obtain ⟨hx, hb, hml, hown, hts⟩ := X
  obtain ⟨e1, e2⟩ := mm_cs hR hmc hms
  exact mm_ret hR e1 e2 (fun Qc hq => W.vret hx hb hr hq hR.2.1.2.2 hd)
end CALL
