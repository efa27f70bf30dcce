/-! A METHOD WITHOUT HANDLERS MEETS ITS CONTRACT -/
theorem mm_pad_ld : ∀ (L : mm_L) (n i : Nat) (v : Value), mm_ld (mm_pad L n) i = some v → mm_ld L i = some v := by
  intro L n
  induction n generalizing L with
  | zero => intro i v h; cases L <;> exact h
  | succ n ih =>
    intro i v h
    cases L with
    | nil =>
      cases i with
      | zero => cases h
      | succ i => exact absurd (ih [] i v h) (by simp [mm_ld])
    | cons o L =>
      cases i with
      | zero => exact h
      | succ i => exact ih L i v h
theorem mm_in_args (B b : Nat) : ∀ (as : List Value) (k i : Nat) (v : Value), mm_ld (mm_in as) i = some v → (k + i, mm_v B b v) ∈ lv_args k (as.map (mm_v B b)) := by
  intro as
  induction as with
  | nil => intro k i v h; exact absurd h (by simp [mm_in, mm_ld])
  | cons w as ih =>
    intro k i v h
    simp only [List.map_cons, lv_args, mm_v_cat]
    cases hc : mm_c2 w with
    | true =>
      simp only [mm_in, hc] at h
      match i, h with
      | 0, h =>
        have h : some w = some v := h
        cases h
        exact List.mem_cons_self
      | 1, h => exact absurd h (by simp [mm_ld])
      | i + 2, h =>
        refine List.mem_cons_of_mem _ ?_
        have h9 := ih (k + 2) i v h
        rw [show k + 2 + i = k + (i + 2) by omega] at h9
        simpa using h9
    | false =>
      simp only [mm_in, hc] at h
      match i, h with
      | 0, h =>
        have h : some w = some v := h
        cases h
        exact List.mem_cons_self
      | i + 1, h =>
        refine List.mem_cons_of_mem _ ?_
        have h9 := ih (k + 1) i v h
        rw [show k + 1 + i = k + (i + 1) by omega] at h9
        simpa using h9
theorem mm_sl_len (B b : Nat) (as : List Value) : (lg_sl (as.map (mm_v B b))).length = mm_wt as := by
  induction as with
  | nil => rfl
  | cons v as ih =>
    simp only [lg_sl, List.map_cons, List.flatMap_cons, List.length_append, mm_wt] at ih ⊢
    rw [ih, mm_v_cat]
    cases mm_c2 v <;> rfl
section MET
variable {l : Launch} {D : va_G} {cl : List vw_C} {tys : List (ClassId × FieldType)} {ck : Nat → List Nat} {ct : Nat → Nat → FieldType} {ak : Nat → FieldType} {dA : Nat → ClassId} {B b Ls : Nat} {xs : Nat → Int32} {TT : List Cond} {strs : List (String × Nat × String)} {nc : List (String × String)} {me : mm_Me} {S : mm_St} {ex : Nat → String} {mc ms : Nat}
variable {call : Nat → List Value → mm_St → Option mm_O} {yj : Nat → MethodName} {cw : Nat → Cond} {d : Nat} {y : MethodName} {bytes : ByteArray} {ret : Option FieldType}
theorem mm_met {o : mm_O} {as : List Value} (hl : l.stackTraces = false) (hpl : plainFor y = true) (hTB : mm_TB cl ck ct ak TT) (hAT : mm_AT tys ak dA) (hM : mm_MOK cl ak TT strs ex yj cw y bytes ret me) (hCt : mm_Ct l D cl tys TT strs nc B b Ls xs ck ak dA ex yj cw d call) (hh : me.hs = []) (hw : mm_wt as ≤ me.nL) (hR : mm_R (mm_step call xs Ls ck ak me) (0, mm_pad (mm_in as) me.nL, [], S) o) (hb : ms ≤ 60000000) (hmc : mm_co S + mc = mm_co o.2) (hms : mm_sl ck S + ms = mm_sl ck o.2) :
    MetFree l y (headSpec [.code y bytes me.nL ret] (mm_rm (d + 1) mc ms)) (mm_Pc D cl tys TT strs nc B b Ls xs ck ak dA as S) (fun _ _ _ _ _ => True) (mm_QO D cl B b ck ak dA ex o mc ms) := by
  obtain ⟨n, hn⟩ := hR
  refine MetFree.of_bodySF (code := bytes) (maxLocals := me.nL) (ret := ret) hpl ?_ ?_
  · intro args s m h hn9
    obtain ⟨meth, c, h1, h2, h3, h4, h5, h6, -, -⟩ := Cond.code_spec hn9 (atoms_spec (ws := [.code y bytes me.nL ret]) h _ List.mem_cons_self)
    exact ⟨meth, c, h1, h2, h3, h4, h5, h6⟩
  · intro p e s m args below meth c s₁ B9 hml hP _
    obtain ⟨rfl, hE, hPP, hsz⟩ := hP
    have hcode := atoms_spec (ws := [.code y bytes me.nL ret]) B9.pre _ List.mem_cons_self
    have hexc : ∀ x ∈ c.exceptionTable.toList, False := by
      obtain ⟨meth9, c9, h1, h2, -, -, -, -, h7, -⟩ := Cond.code_spec B9.named hcode
      cases Option.some.inj (h1.symm.trans B9.method)
      cases Option.some.inj (h2.symm.trans (Stand.of_body B9).code)
      intro x hx
      rw [Array.isEmpty_iff.mp h7] at hx
      cases hx
    have hh0 : s₁.heap = s.heap := by rw [B9.state]; rfl
    have hFR : mm_FR p l (headSpec [.code y bytes me.nL ret] (mm_rm (d + 1) mc ms)).room s m (as.map (mm_v B b)).toArray meth c D cl tys ak dA TT strs nc B b Ls xs S d y bytes ret me.nL :=
      ⟨⟨B9.exec, B9.bytes, hml, findClass_of_methodNamed B9.named, fun w hw => mm_warm (State.WarmedH.refl s) (hTB.2.2.1 w hw) (hE.1 w hw)⟩, hE.2.1, hAT, hE, hE.2.2.2.2.2.2.2.2, hsz, B9.returns, B9.notSynchronized, (name_of_methodNamed B9.named B9.method).1, hexc, hl, by show d + 9 ≤ d + 1 + 8; omega, by show 40 * d + 240 ≤ 40 * (d + 1) + 200; omega, hb⟩
    have hJ := (mm_walk (e := e) (below := below) hTB hM hFR hCt hh (Nat.le_refl _) (Nat.le_refl _) hmc hms n _ hn).2
    have hlv := lv_entry (as.map (mm_v B b)) (n := me.nL) (by rw [mm_sl_len]; exact hw)
    have hLR : mm_LR B b ((lg_sl (as.map (mm_v B b)) ++ List.replicate (me.nL - (lg_sl (as.map (mm_v B b))).length) Slot.unset).toArray) me.nL (mm_pad (mm_in as) me.nL) :=
      ⟨hlv.1, hlv.2.1, fun i v hv => hlv.2.2 (i, mm_v B b v) (by have h9 := mm_in_args B b as 0 i v (mm_pad_ld _ _ _ _ hv); rw [Nat.zero_add] at h9; exact h9)⟩
    have hW := hJ _ s.heap [] 0 0 hLR ⟨hPP, va_S.rf, rfl, rfl, Nat.le_refl _⟩
    have K : W p l e (headSpec [.code y bytes me.nL ret] (mm_rm (d + 1) mc ms)).room s m (as.map (mm_v B b)).toArray below meth c s₁.heap [] 0 0 (mm_E below (as.map (mm_v B b)).toArray s D cl B b ck ak dA ex o mc ms) (entryFrame m (as.map (mm_v B b)).toArray me.nL) := by
      rw [hh0, lg_entry_eq]
      exact hW
    obtain ⟨t, a1, oc, b1, b2, b3⟩ := K s₁ rfl (Stand.of_body B9)
    exact ⟨t, oc, a1, b1, b2, b3⟩
end MET
