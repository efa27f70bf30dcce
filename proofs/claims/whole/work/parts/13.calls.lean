/-! CALLS IN THE SMALL MACHINE'S WORDS -/
def mm_rm (d mc ms : Nat) : Room := { frames := d + 8, cells := mc, slots := ms, locals := 40 * d + 200 }
theorem mm_free_mono {l : Launch} {y : MethodName} {S : Spec} {P : Array Value → State → Prop} {K : Program → Env → List Frame → State → Array Value → Prop} {Q Q' : Array Value → State → Outcome → State → Prop} (h : MetFree l y S P K Q) (hq : ∀ a st o t, Q a st o t → Q' a st o t) : MetFree l y S P K Q' := by
  intro p e ha hc hk s m args below hf happ hP hK
  obtain ⟨n, o, h1, h2, h3, h4⟩ := h p e ha hc hk s m args below hf happ hP hK
  exact ⟨n, o, h1, h2, h3, hq _ _ _ _ h4⟩
theorem mm_pop_spec : ∀ (n : Nat) (acc st as r : List Value), mm_pop n acc st = some (as, r) → ∃ ys, as = ys ++ acc ∧ st = ys.reverse ++ r ∧ ys.length = n := by
  intro n
  induction n with
  | zero =>
    intro acc st as r h
    unfold mm_pop at h
    cases h
    exact ⟨[], rfl, rfl, rfl⟩
  | succ n ih =>
    intro acc st as r h
    cases st with
    | nil => cases h
    | cons v st =>
      obtain ⟨ys, h1, h2, h3⟩ := ih (v :: acc) st as r h
      refine ⟨ys ++ [v], by rw [h1]; simp, by rw [h2]; simp, by simp [h3]⟩
section CALLS
variable {p : Program} {l : Launch} {e : Env} {R : Room} {s : State} {m : MethodId} {args : Array Value} {below : List Frame} {meth : Method} {c : Code} {Q : State → Prop} {H : Heap} {locs : List Loc} {cells slots : Nat} {ls : Array Slot}
variable {D : va_G} {cl : List vw_C} {tys : List (ClassId × FieldType)} {ck : Nat → List Nat} {ct : Nat → Nat → FieldType} {ak : Nat → FieldType} {dA : Nat → ClassId} {B b Ls nL pc : Nat} {xs : Nat → Int32} {TT : List Cond} {strs : List (String × Nat × String)} {nc : List (String × String)} {cc : ByteArray} {own : String} {me : mm_Me} {L : mm_L} {st : List Value} {S S0 : mm_St} {z' : mm_Z} {ex : Nat → String} {mc ms : Nat}
/-- the places written so far, when a callee has come back -/
theorem mm_after {st₀ t T' : State} {L1 : List Loc} {H0 : Heap} (h0 : st₀.heap = H) (e1 : T'.heap = t.heap) (hS : va_S (fun q => B ≤ q) H0 H locs) (hL : ∀ z ∈ L1, B ≤ z.base) (hF : va_F (fun q => B ≤ q) st₀ t) : va_S (fun q => B ≤ q) H0 T'.heap (locs ++ L1) := by
  obtain ⟨hz, hk⟩ := hF
  rw [h0] at hz hk
  rw [e1]
  refine ⟨Nat.le_trans hS.1 hz, fun q h1 h2 => (hk q (Nat.lt_of_lt_of_le h1 hS.1) h2).trans (hS.2.1 q h1 h2), fun q hq => ?_⟩
  rcases List.mem_append.mp hq with h | h
  · exact hS.2.2 q h
  · exact hL q h
theorem mm_run_ret {mc' ms' : Nat} {o : mm_O} {v : Option Value} {a : Array Value} {st0 rest : List Value} (hr : va_Run p l e R s m args below meth c H locs cells slots mc' ms' (F0 m pc ls st0) rest (mm_QO D cl B b ck ak dA ex o mc' ms' a) (fun q => B ≤ q)) (ho : o.1 = .inl v) (hS : va_S (fun q => B ≤ q) s.heap H locs)
    (k : ∀ (H1 : Heap) (locs1 : List Loc), va_P D cl (mm_ws ck ak dA B b o.2.1 o.2.2.1) H1 → va_S (fun q => B ≤ q) s.heap H1 locs1 → W p l e R s m args below meth c H1 locs1 (cells + mc') (slots + ms') Q (F0 m (pc + 3) ls ((v.toList ++ []).map (mm_v B b) ++ rest))) : W p l e R s m args below meth c H locs cells slots Q (F0 m pc ls st0) := by
  intro T hT X
  obtain ⟨v1, st₀, t, T', L1, h0, X', hL, e1, e2, ⟨ho1, hP1, hF, -⟩, st⟩ := hr T hT X
  rw [ho] at ho1
  have ho2 : Outcome.returned v1 = .returned (v.map (mm_v B b)) := ho1
  cases ho2
  obtain ⟨t2, a1, b1⟩ := k T'.heap (locs ++ L1) (by rw [e1]; exact hP1) (mm_after h0 e1 hS hL hF) T' rfl X'
  refine ⟨t2, st t2 ?_, b1⟩
  have e9 : (v.toList ++ []).map (mm_v B b) = (v.map (mm_v B b)).toList := by cases v <;> rfl
  rw [e9] at a1
  exact a1
/-- out of a caller without handlers, when its callee has thrown -/
theorem mm_out {T T' st₀ t : State} {L1 : List Loc} {q : Addr} {n mc' ms' : Nat} {o : mm_O} {a : Array Value} {rest : List Value} (ho : o.1 = .inr n) (hT : T.heap = H) (h0 : st₀.heap = T.heap) (hW : s.WarmedH st₀.vm) (X' : Stand p l e R s m args below meth c T' (locs ++ L1) (cells + mc') (slots + ms')) (hL : ∀ z ∈ L1, B ≤ z.base) (e1 : T'.heap = t.heap) (e2 : T'.vm = t.vm)
    (hq : mm_QO D cl B b ck ak dA ex o mc' ms' a st₀ (.threw q) t) (hS : va_S (fun q => B ≤ q) s.heap H locs) (hexc : ∀ x ∈ c.exceptionTable.toList, False) (hlocks : meth.locks = false) (hmc : cells + mc' ≤ mc) (hms : slots + ms' ≤ ms) :
    ∃ t2, Steps p.tables e below ((T'.setTop (F0 m pc ls rest)).pushFrame (.throwing q)) t2 ∧ mm_E below args s D cl B b ck ak dA ex o mc ms t2 := by
  obtain ⟨ho1, hP1, hF, -⟩ := hq
  rw [ho] at ho1
  obtain ⟨q2, ce, hq2, hce, hcv, hcl⟩ := ho1
  cases hq2
  obtain ⟨st1, hrun, hend, hW9, hsm⟩ := X'.leaveThrown q (g := F0 m pc ls rest) rfl rfl rfl (fun x hx => (hexc x hx).elim) hlocks
  have hS' := mm_after (h0.trans hT) e1 hS hL hF
  have hcl9 : s.vm.findClass (ex n) = some ce.cls := by rw [← hcl, hW.alike.findClass]
  refine ⟨_, st1, .threw q, hrun, hend, ?_, ?_, hS'.F (t := T'.setFrames (.throwing q :: below)) rfl, hW9, _, hsm.mono hmc hms, fun z hz => hS'.2.2 z hz⟩
  · rw [ho]
    exact ⟨q, ce, rfl, by show T'.heap[q]? = _; rw [e1]; exact hce, hcv, hcl9⟩
  · show va_P D cl _ T'.heap
    rw [e1]; exact hP1
/-- how large the heap is, while nothing has been thrown -/
theorem mm_size {T : State} (X : Stand p l e R s m args below meth c T locs cells slots) (hT : T.heap = H) (hR : mm_Rz D cl ck ak dA B b s.heap S0 S H locs cells slots) (hB : B ≤ s.heap.size) (hex : S0.2.2 = 0 → s.heap.size = B + S0.1.length) : S.2.2 = 0 → H.size = B + S.1.length := by
  intro h0
  obtain ⟨hP, hS, hco, hsl, hnx⟩ := hR
  have h1 := hex (by omega)
  have h2 := X.heapSize
  rw [hT] at h2
  have h3 : S0.1.length + S0.2.2 + cells = S.1.length + S.2.2 := hco
  have h4 : B + S.1.length ≤ H.size := by
    by_cases hz : S.1.length = 0
    · have := hS.1
      omega
    · have e := mm_ws_at (ck := ck) (ak := ak) (dA := dA) (B := B) (b := b) (M := S.2.1) (List.getElem?_eq_getElem (show S.1.length - 1 < S.1.length by omega))
      have h5 : B + (S.1.length - 1) < H.size := (hP _ _ e).lt
      omega
  omega
/-- the contracts of all methods: names, bytes, what they return, their code's words -/
def mm_Ct (l : Launch) (D : va_G) (cl : List vw_C) (tys : List (ClassId × FieldType)) (TT : List Cond) (strs : List (String × Nat × String)) (nc : List (String × String)) (B b Ls : Nat) (xs : Nat → Int32) (ck : Nat → List Nat) (ak : Nat → FieldType) (dA : Nat → ClassId) (ex : Nat → String) (yj : Nat → MethodName) (cw : Nat → Cond) (d : Nat) (call : Nat → List Value → mm_St → Option mm_O) : Prop :=
  ∀ j as S o, call j as S = some o → mm_co S ≤ mm_co o.2 ∧ mm_sl ck S ≤ mm_sl ck o.2 ∧ S.2.2 ≤ o.2.2.2 ∧ ∀ mc ms, ms ≤ 60000000 → mm_co S + mc = mm_co o.2 → mm_sl ck S + ms = mm_sl ck o.2 →
    MetFree l (yj j) (headSpec [cw j] (mm_rm d mc ms)) (mm_Pc D cl tys TT strs nc B b Ls xs ck ak dA as S) (fun _ _ _ _ _ => True) (mm_QO D cl B b ck ak dA ex o mc ms)
/-- a callee's words, but how it is linked -/
def mm_CE (TT : List Cond) (y : MethodName) (bytes : ByteArray) (maxL n : Nat) (ret : Option FieldType) : Prop :=
  Cond.code y bytes maxL ret ∈ TT ∧ goodWord (.code y bytes maxL ret) = true ∧ Cond.initialized y.cls ∈ TT ∧ (y.cls ≠ "java/lang/invoke/MethodHandle" ∧ y.cls ≠ "java/lang/invoke/VarHandle") ∧ (parseMethodDescriptor y.desc).map (fun d => d.parameters.length) = some n ∧ maxL ≤ 21
theorem mm_CE.toB {y : MethodName} {bytes : ByteArray} {maxL n ix d mc' ms' : Nat} {ret : Option FieldType} (h : mm_CE TT y bytes maxL n ret) (hts : ∀ w ∈ TT, w.before args s = true) (hl : Cond.methodLink own ix y ∈ TT) (hRf : d + 9 ≤ R.frames) (hRl : 40 * d + 240 ≤ R.locals) :
    CallB R s args own ix y bytes maxL ret [.code y bytes maxL ret] (mm_rm d mc' ms') mc' ms' n := by
  obtain ⟨h1, h2, h3, h4, h5, h6⟩ := h
  exact callB_of n hts (fun w hw => by rw [List.mem_singleton] at hw; subst hw; exact ⟨h1, good_of_word h2⟩) rfl rfl rfl (hts _ h3) (hts _ hl) ⟨h4.1, h4.2, h5⟩ ⟨by show d + 8 + 1 ≤ _; omega, by show 8 + (maxL + 11) + (40 * d + 200) ≤ _; omega⟩
theorem mm_CE.toR {y : MethodName} {bytes : ByteArray} {maxL n d mc' ms' : Nat} {ret : Option FieldType} (h : mm_CE TT y bytes maxL n ret) (hTT : ∀ w ∈ TT, mm_wd w = true) (hts : ∀ w ∈ TT, w.before args s = true) (hRf : d + 9 ≤ R.frames) (hRl : 40 * d + 240 ≤ R.locals) :
    mm_CR R s args y bytes maxL ret [.code y bytes maxL ret] (mm_rm d mc' ms') mc' ms' := by
  obtain ⟨h1, h2, h3, h4, h5, h6⟩ := h
  exact ⟨rfl, rfl, by show d + 8 + 1 ≤ _; omega, by show 8 + (maxL + 11) + (40 * d + 200) ≤ _; omega, fun w hw a' U hW => by rw [List.mem_singleton] at hw; subst hw; exact mm_warm hW (hTT _ h1) (hts _ h1), List.mem_singleton.mpr rfl, fun a' U hW => mm_warm hW (hTT _ h3) (hts _ h3)⟩
theorem mm_QO.met {y : MethodName} {ws : List Cond} {rm : Room} {P : Array Value → State → Prop} {o : mm_O} {v : Option Value} (ho : o.1 = .inl v) (h : MetFree l y (headSpec ws rm) P (fun _ _ _ _ _ => True) (mm_QO D cl B b ck ak dA ex o mc ms)) : Met l y ws rm P (mm_QO D cl B b ck ak dA ex o mc ms) mc ms (fun q => B ≤ q) :=
  mm_free_mono h fun a st oc t hq => ⟨hq, by
    obtain ⟨h1, -, -, h4, Lc, h5, h6⟩ := hq
    rw [ho] at h1
    exact ⟨Lc, ⟨⟨_, h1⟩, h4, h5⟩, h6⟩⟩
theorem mm_QO.thr {o : mm_O} {n : Nat} (ho : o.1 = .inr n) : mm_QT (mm_QO D cl B b ck ak dA ex o mc ms) mc ms (fun q => B ≤ q) := by
  intro a st oc t hq
  obtain ⟨h1, -, -, h4, Lc, h5, h6⟩ := hq
  rw [ho] at h1
  obtain ⟨q, ce, h1, -⟩ := h1
  exact ⟨q, h1, h4, Lc, h5, h6⟩
end CALLS
