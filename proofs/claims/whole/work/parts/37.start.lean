/-! THE LAW's START -/
def pd_S0 : mm_St := ([], (fun _ _ => 0, fun _ _ => 0, fun _ _ => none, fun _ _ => 0), 0)
/-- THE CLAIM OF THE SMALL MACHINE: on the script xs of Ls ints the law comes to its end with 1, within the room -/
def pd_Main (xs : Nat → Int32) (Ls : Nat) : Prop := ∃ d S', d ≤ 1900 ∧ mm_R (mm_step (mm_ev xs Ls pd_ck pd_ak pd_mj d) xs Ls pd_ck pd_ak pd_mL) (0, mm_pad (mm_in [.retAddr 0]) 9, [], pd_S0) (.inl (some (.int 1)), S') ∧ mm_co S' ≤ 601024 ∧ mm_sl pd_ck S' ≤ 7293034
section START
variable {s : State} {args : Array Value}
theorem pd_arrP {ty : FieldType} (h : (Cond.arrayClass ty).before args s = true) : ∃ cA, ArrOfT s cA ty ∧ s.vm.findClass ("[" ++ ty.toString) = some cA := by
  obtain ⟨c, k, comp, h1, h2, h3⟩ := Cond.arrayClass_spec h
  exact ⟨c, fun n z => ⟨fun k h => (by cases h), k, h2, comp, h3⟩, h1⟩
theorem pd_arrO {C : String} (h : (Cond.arrayOver (.object C)).before args s = true) : ∃ cA, ArrOfT s cA (.object C) ∧ va_RA s cA (.object C) := by
  obtain ⟨comp, c, k, h1, -, h3, h4, h5⟩ := Cond.arrayOver_spec h
  exact ⟨c, fun n z => ⟨fun k h => (by cases h), k, h3, comp, h4⟩, k, comp, h3, h4, h1, h5⟩
theorem pd_known (hts : ∀ w ∈ pd_TT, w.before args s = true) : ∃ (D : va_G) (tys : List (ClassId × FieldType)) (dA : Nat → ClassId), va_K D pd_cl tys s ∧ mm_AT tys pd_ak dA := by
  have h1 : ∀ ci : Nat, ∃ p : ClassId × (Nat → Nat), ∀ q : vw_C, pd_cl[ci]? = some q → u_Kn s q.1 q.2.1 q.2.2 p.1 p.2 := by
    intro ci
    cases hq : pd_cl[ci]? with
    | none => exact ⟨(0, fun _ => 0), fun q h => by cases h⟩
    | some r =>
      have key : ∃ cC iS, u_Kn s r.1 r.2.1 r.2.2 cC iS := by
        match ci, hq with
        | 0, hq => cases hq; exact u_known hts pd_ws0 (hts _ pd_in0)
        | 1, hq => cases hq; exact u_known hts pd_ws1 (hts _ pd_in1)
        | 2, hq => cases hq; exact u_known hts pd_ws2 (hts _ pd_in2)
        | 3, hq => cases hq; exact u_known hts pd_ws3 (hts _ pd_in3)
        | 4, hq => cases hq; exact u_known hts pd_ws4 (hts _ pd_in4)
        | 5, hq => cases hq; exact u_known hts pd_ws5 (hts _ pd_in5)
        | 6, hq => cases hq; exact u_known hts pd_ws6 (hts _ pd_in6)
        | 7, hq => cases hq; exact u_known hts pd_ws7 (hts _ pd_in7)
        | _ + 8, hq => cases hq
      obtain ⟨cC, iS, hk⟩ := key
      exact ⟨(cC, iS), fun q h => by cases h; exact hk⟩
  have aI : ∃ cA, ArrOfT s cA .int ∧ va_RA s cA .int := pd_arrP (hts _ pd_wa_int)
  have aC : ∃ cA, ArrOfT s cA .char ∧ va_RA s cA .char := pd_arrP (hts _ pd_wa_char)
  have aD : ∃ cA, ArrOfT s cA .double ∧ va_RA s cA .double := pd_arrP (hts _ pd_wa_double)
  have aJ : ∃ cA, ArrOfT s cA .long ∧ va_RA s cA .long := pd_arrP (hts _ pd_wa_long)
  have aZ : ∃ cA, ArrOfT s cA .boolean ∧ va_RA s cA .boolean := pd_arrP (hts _ pd_wa_boolean)
  have o1 := pd_arrO (hts _ pd_ao1)
  have o6 := pd_arrO (hts _ pd_ao6)
  have h2 : ∀ t : Nat, ∃ cA, ArrOfT s cA (pd_ak t) ∧ va_RA s cA (pd_ak t) := by
    intro t
    match t with
    | 0 => exact aI
    | 1 => exact aC
    | 2 => exact aD
    | 3 => exact aJ
    | 4 => exact aZ
    | 5 => exact aI
    | 6 => exact aI
    | 7 => exact aI
    | 8 => exact aI
    | 9 => exact aI
    | 10 => exact aI
    | 11 => exact o1
    | 12 => exact aI
    | 13 => exact aI
    | 14 => exact aI
    | 15 => exact aI
    | 16 => exact o6
    | 17 => exact aI
    | t + 18 => exact aI
  obtain ⟨f, hf⟩ := Classical.axiomOfChoice h1
  obtain ⟨g, hg⟩ := Classical.axiomOfChoice h2
  refine ⟨(fun c => (f c).1, fun c => (f c).2), (List.range 18).map (fun t => (g t, pd_ak t)), fun t => g (if t < 18 then t else 0), ⟨fun c q hq => hf c q hq, fun k q hk => ?_⟩, fun t => ?_⟩
  · rw [List.getElem?_map] at hk
    cases hr : (List.range 18)[k]? with
    | none => rw [hr] at hk; cases hk
    | some t => rw [hr] at hk; cases hk; exact hg t
  · by_cases ht : t < 18
    · refine ⟨t, ?_⟩
      rw [List.getElem?_map, List.getElem?_range ht]
      show some (g t, pd_ak t) = some (g (if t < 18 then t else 0), pd_ak t)
      rw [if_pos ht]
    · refine ⟨0, ?_⟩
      rw [List.getElem?_map, List.getElem?_range (by omega)]
      show some (g 0, pd_ak 0) = some (g (if t < 18 then t else 0), pd_ak t)
      rw [if_neg ht]
      have : pd_ak t = .int := by
        unfold pd_ak
        rw [List.getD_eq_getElem?_getD, List.getElem?_eq_none (by show 18 ≤ t; omega)]
        rfl
      rw [this]
      rfl
theorem pd_str {own tx : String} {k : Nat} (h : (Cond.stringRef own k tx).before args s = true) : ∃ a, vk_R own k tx a s := by
  have h0 := h
  simp only [Cond.before, Cond.holds, Cond.value] at h0
  cases hc : s.vm.findClass own with
  | none => simp [hc] at h0
  | some cur =>
    cases hr : s.resolvedAt? own k with
    | none => simp [hc, hr] at h0
    | some r =>
      cases r with
      | string a =>
        refine ⟨a, vk_R.of h ?_⟩
        unfold State.resolvedAt? at hr
        rw [hc] at hr
        simp only [Term.eval, hc]
        cases hk : s.vm.classes[cur]? with
        | none => simp [hk] at hr
        | some K =>
          simp [hk] at hr ⊢
          simp [hr]
      | _ => simp [hc, hr] at h0
end START
