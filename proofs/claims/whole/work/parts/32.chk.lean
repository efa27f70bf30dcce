/-! THE CHECKS -/
/-- a link is as the tables have it -/
def pd_LO (own : String) (ix : Nat) (k : mm_K) : Prop :=
  (k.1 = 0 → ∃ C T N, mm_FL pd_cl pd_TT own ix k.2.1 k.2.2.1 C T N) ∧
  (k.1 = 1 → ∃ bt mL rt, pd_cw k.2.1 = .code (pd_yj k.2.1) bt mL rt ∧ mm_CE pd_TT (pd_yj k.2.1) bt mL k.2.2.1 rt ∧ mm_ML pd_TT pd_cl own ix k.2.2.2 (pd_yj k.2.1)) ∧
  (k.1 = 2 → ∃ bt mL rt, pd_cw k.2.1 = .code (pd_yj k.2.1) bt mL rt ∧ mm_CE pd_TT (pd_yj k.2.1) bt mL k.2.2.1 rt ∧ Cond.methodLink own ix (pd_yj k.2.1) ∈ pd_TT ∧ Cond.static (pd_yj k.2.1) ∈ pd_TT) ∧
  (k.1 = 14 → ∃ bt mL rt hh, pd_cw k.2.1 = .codeWith (pd_yj k.2.1) bt mL rt hh ∧ mm_CEW pd_TT (pd_yj k.2.1) bt mL k.2.2.1 rt hh ∧ Cond.methodLink own ix (pd_yj k.2.1) ∈ pd_TT ∧ Cond.static (pd_yj k.2.1) ∈ pd_TT) ∧
  (k.1 = 3 → Cond.methodLink own ix Lib.objectInit ∈ pd_TT ∧ Cond.instanceMethod Lib.objectInit ∈ pd_TT ∧ Cond.code Lib.objectInit ⟨#[0xb1]⟩ 1 none ∈ pd_TT) ∧
  (k.1 = 4 → ∃ C T N, pd_cl[k.2.1]? = some (C, T, N) ∧ Cond.classLink own ix C ∈ pd_TT ∧ Cond.instantiable C N ∈ pd_TT ∧ Cond.initialized C ∈ pd_TT ∧ (mm_ty (pd_ak (10 + k.2.1)) = 5 → pd_ak (10 + k.2.1) = .object C ∧ Cond.arrayOver (.object C) ∈ pd_TT)) ∧
  (k.1 = 10 → ∃ bt mL, pd_cw k.2.1 = .code (pd_yj k.2.1) bt mL none ∧ mm_CE pd_TT (pd_yj k.2.1) bt mL k.2.2.1 none ∧ Cond.methodLink own ix (pd_yj k.2.1) ∈ pd_TT ∧ Cond.instanceMethod (pd_yj k.2.1) ∈ pd_TT ∧ (pd_yj k.2.1).name = "<init>") ∧
  (k.1 = 5 → Cond.classLink own ix (pd_ex k.2.1) ∈ pd_TT) ∧
  (k.1 = 7 → Cond.constantLong own ix (Int64.ofNat k.2.1) ∈ pd_TT) ∧
  (k.1 = 8 → Cond.constantDouble own ix (UInt64.ofNat k.2.1) ∈ pd_TT) ∧ k.1 ≠ 6
section LO
variable {own : String} {ix a b c : Nat}
theorem mm_LO.k0 {C : String} {T : u_T} {N : Nat} (h1 : pd_cl[a]? = some (C, T, N)) (h2 : b < N) (h3 : Cond.fieldLink own ix (T b).1 (T b).2.1 (T b).2.2.1 ∈ pd_TT) : pd_LO own ix (0, a, b, c) := by
  refine ⟨fun _ => ⟨C, T, N, h1, h2, h3⟩, ?_⟩
  refine ⟨?_, ?_, ?_, ?_, ?_, ?_, ?_, ?_, ?_, ?_⟩ <;> intro h <;> cases h
theorem mm_LO.k1 {bt : ByteArray} {mL : Nat} {rt : Option FieldType} (h1 : (pd_at a).2.2.2.1 = .code (pd_at a).1 bt mL rt) (h2 : mm_CE pd_TT (pd_at a).1 bt mL b rt) (h3 : mm_ML pd_TT pd_cl own ix c (pd_at a).1) : pd_LO own ix (1, a, b, c) := by
  refine ⟨?_, fun _ => ⟨bt, mL, rt, h1, h2, h3⟩, ?_⟩
  · intro h; cases h
  · refine ⟨?_, ?_, ?_, ?_, ?_, ?_, ?_, ?_, ?_⟩ <;> intro h <;> cases h
theorem mm_LO.k2 {bt : ByteArray} {mL : Nat} {rt : Option FieldType} (h1 : (pd_at a).2.2.2.1 = .code (pd_at a).1 bt mL rt) (h2 : mm_CE pd_TT (pd_at a).1 bt mL b rt) (h3 : Cond.methodLink own ix (pd_at a).1 ∈ pd_TT) (h4 : Cond.static (pd_at a).1 ∈ pd_TT) : pd_LO own ix (2, a, b, c) := by
  refine ⟨?_, ?_, fun _ => ⟨bt, mL, rt, h1, h2, h3, h4⟩, ?_⟩
  · intro h; cases h
  · intro h; cases h
  · refine ⟨?_, ?_, ?_, ?_, ?_, ?_, ?_, ?_⟩ <;> intro h <;> cases h
theorem mm_LO.k14 {bt : ByteArray} {mL : Nat} {rt : Option FieldType} {hh : List (Nat × Nat × Nat × Nat)} (h1 : (pd_at a).2.2.2.1 = .codeWith (pd_at a).1 bt mL rt hh) (h2 : mm_CEW pd_TT (pd_at a).1 bt mL b rt hh) (h3 : Cond.methodLink own ix (pd_at a).1 ∈ pd_TT) (h4 : Cond.static (pd_at a).1 ∈ pd_TT) : pd_LO own ix (14, a, b, c) := by
  refine ⟨?_, ?_, ?_, fun _ => ⟨bt, mL, rt, hh, h1, h2, h3, h4⟩, ?_⟩
  · intro h; cases h
  · intro h; cases h
  · intro h; cases h
  · refine ⟨?_, ?_, ?_, ?_, ?_, ?_, ?_⟩ <;> intro h <;> cases h
theorem mm_LO.k3 (h1 : Cond.methodLink own ix Lib.objectInit ∈ pd_TT) (h2 : Cond.instanceMethod Lib.objectInit ∈ pd_TT) (h3 : Cond.code Lib.objectInit ⟨#[0xb1]⟩ 1 none ∈ pd_TT) : pd_LO own ix (3, a, b, c) := by
  refine ⟨?_, ?_, ?_, ?_, fun _ => ⟨h1, h2, h3⟩, ?_⟩
  · intro h; cases h
  · intro h; cases h
  · intro h; cases h
  · intro h; cases h
  · refine ⟨?_, ?_, ?_, ?_, ?_, ?_⟩ <;> intro h <;> cases h
theorem mm_LO.k4 {C : String} {T : u_T} {N : Nat} (h1 : pd_cl[a]? = some (C, T, N)) (h2 : Cond.classLink own ix C ∈ pd_TT) (h3 : Cond.instantiable C N ∈ pd_TT) (h4 : Cond.initialized C ∈ pd_TT) (h5 : mm_ty (pd_ak (10 + a)) = 5 → pd_ak (10 + a) = .object C ∧ Cond.arrayOver (.object C) ∈ pd_TT) : pd_LO own ix (4, a, b, c) := by
  refine ⟨?_, ?_, ?_, ?_, ?_, fun _ => ⟨C, T, N, h1, h2, h3, h4, h5⟩, ?_⟩
  · intro h; cases h
  · intro h; cases h
  · intro h; cases h
  · intro h; cases h
  · intro h; cases h
  · refine ⟨?_, ?_, ?_, ?_, ?_⟩ <;> intro h <;> cases h
theorem mm_LO.k10 {bt : ByteArray} {mL : Nat} (h1 : (pd_at a).2.2.2.1 = .code (pd_at a).1 bt mL none) (h2 : mm_CE pd_TT (pd_at a).1 bt mL b none) (h3 : Cond.methodLink own ix (pd_at a).1 ∈ pd_TT) (h4 : Cond.instanceMethod (pd_at a).1 ∈ pd_TT) (h5 : (pd_at a).1.name = "<init>") : pd_LO own ix (10, a, b, c) := by
  refine ⟨?_, ?_, ?_, ?_, ?_, ?_, fun _ => ⟨bt, mL, h1, h2, h3, h4, h5⟩, ?_⟩
  · intro h; cases h
  · intro h; cases h
  · intro h; cases h
  · intro h; cases h
  · intro h; cases h
  · intro h; cases h
  · refine ⟨?_, ?_, ?_, ?_⟩ <;> intro h <;> cases h
theorem mm_LO.k5 (h1 : Cond.classLink own ix (pd_ex a) ∈ pd_TT) : pd_LO own ix (5, a, b, c) := by
  refine ⟨?_, ?_, ?_, ?_, ?_, ?_, ?_, fun _ => h1, ?_⟩
  · intro h; cases h
  · intro h; cases h
  · intro h; cases h
  · intro h; cases h
  · intro h; cases h
  · intro h; cases h
  · intro h; cases h
  · refine ⟨?_, ?_, ?_⟩ <;> intro h <;> cases h
theorem mm_LO.k7 (h1 : Cond.constantLong own ix (Int64.ofNat a) ∈ pd_TT) : pd_LO own ix (7, a, b, c) := by
  refine ⟨?_, ?_, ?_, ?_, ?_, ?_, ?_, ?_, fun _ => h1, ?_⟩
  · intro h; cases h
  · intro h; cases h
  · intro h; cases h
  · intro h; cases h
  · intro h; cases h
  · intro h; cases h
  · intro h; cases h
  · intro h; cases h
  · refine ⟨?_, ?_⟩ <;> intro h <;> cases h
theorem mm_LO.k8 (h1 : Cond.constantDouble own ix (UInt64.ofNat a) ∈ pd_TT) : pd_LO own ix (8, a, b, c) := by
  refine ⟨?_, ?_, ?_, ?_, ?_, ?_, ?_, ?_, ?_, fun _ => h1, ?_⟩
  · intro h; cases h
  · intro h; cases h
  · intro h; cases h
  · intro h; cases h
  · intro h; cases h
  · intro h; cases h
  · intro h; cases h
  · intro h; cases h
  · intro h; cases h
  · intro h; cases h
end LO
theorem pd_lk_mem {ix : Nat} {k : mm_K} : ∀ {l : List (Nat × mm_K)}, pd_lk l ix = some k → (ix, k) ∈ l := by
  intro l
  induction l with
  | nil => intro h; cases h
  | cons q r ih =>
    intro h
    unfold pd_lk at h
    cases hb : Nat.beq q.1 ix with
    | true =>
      rw [hb] at h
      have h9 := Nat.eq_of_beq_eq_true hb
      cases h
      rw [← h9]
      exact List.mem_cons_self
    | false =>
      rw [hb] at h
      exact List.mem_cons_of_mem _ (ih h)
abbrev pd_MOK (y : MethodName) (bytes : ByteArray) (ret : Option FieldType) (me : mm_Me) : Prop := mm_MOK pd_cl pd_ak pd_TT pd_strs pd_ex pd_yj pd_cw y bytes ret me
/-- what an instruction wants beside its links -/
def pd_ib1 (me : mm_Me) (y : MethodName) (ret : Option FieldType) (thr : List (Nat × Nat × Nat)) (pc : Nat) (i : Instr) : Bool := match i with
  | .putfield ix => match me.lk ix with
    | some k => match pd_cl[k.2.1]? with
      | some (_, T, _) => !(T k.2.2.1).2.2.2 || (decide (y.name = "<init>") && decide ((T k.2.2.1).1 = y.cls))
      | none => false
    | none => true
  | .new ix => match me.lk ix with
    | some k => !(Nat.beq k.1 5) || decide ((pc, ix, k.2.1) ∈ thr)
    | none => true
  | .anewarray ix => match me.lk ix with
    | some k => Nat.beq (mm_ty (pd_ak (10 + k.2.1))) 5
    | none => true
  | .newarray t => match t with
    | .int | .char | .double | .long | .boolean => true
    | _ => false
  | .ireturn => decide (ret = some (match me.rk with
    | 0 => .int
    | 1 => .char
    | _ => .boolean))
  | .lreturn => decide (ret = some .long)
  | .dreturn => decide (ret = some .double)
  | .areturn => match ret with
    | some (.object _) => true
    | some (.array _) => true
    | _ => false
  | .return_ => decide (ret = none)
  | _ => true
def pd_ib (me : mm_Me) (y : MethodName) (bytes : ByteArray) (ret : Option FieldType) (thr : List (Nat × Nat × Nat)) (pc : Nat) (q : Instr × Nat) : Bool :=
  decide (decode bytes pc = .ok q) && ((Nat.beq (mm_len q.1) 0 || Nat.beq q.2 (mm_len q.1)) && (((mm_offs q.1).all fun o => decide (0 ≤ (pc : Int) + o)) && (decide (mm_sti q.1 ≤ me.nL) && (mm_swok q.1 && pd_ib1 me y ret thr pc q.1))))
def pd_ibs (me : mm_Me) (y : MethodName) (bytes : ByteArray) (ret : Option FieldType) (thr : List (Nat × Nat × Nat)) : List (Option (Instr × Nat)) → Nat → Bool
  | [], _ => true
  | none :: r, pc => pd_ibs me y bytes ret thr r (pc + 1)
  | some q :: r, pc => pd_ib me y bytes ret thr pc q && pd_ibs me y bytes ret thr r (pc + 1)
theorem pd_ibs_at {me : mm_Me} {y : MethodName} {bytes : ByteArray} {ret : Option FieldType} {thr : List (Nat × Nat × Nat)} {q : Instr × Nat} : ∀ (l : List (Option (Instr × Nat))) (pc k : Nat), pd_ibs me y bytes ret thr l pc = true → l[k]? = some (some q) → pd_ib me y bytes ret thr (pc + k) q = true := by
  intro l
  induction l with
  | nil => intro pc k _ h; simp at h
  | cons o r ih =>
    intro pc k h hk
    cases k with
    | zero =>
      rw [List.getElem?_cons_zero] at hk
      cases hk
      have h : (pd_ib me y bytes ret thr pc q && pd_ibs me y bytes ret thr r (pc + 1)) = true := h
      rw [Bool.and_eq_true] at h
      exact h.1
    | succ k =>
      rw [List.getElem?_cons_succ] at hk
      have h2 : pd_ibs me y bytes ret thr r (pc + 1) = true := by
        cases o with
        | none => exact h
        | some q' =>
          have h : (pd_ib me y bytes ret thr pc q' && pd_ibs me y bytes ret thr r (pc + 1)) = true := h
          rw [Bool.and_eq_true] at h
          exact h.2
      have h3 := ih (pc + 1) k h2 hk
      rw [show pc + 1 + k = pc + (k + 1) by omega] at h3
      exact h3
theorem pd_MOK.of {own : String} {y : MethodName} {bytes : ByteArray} {ret : Option FieldType} {me : mm_Me} {lkl : List (Nat × mm_K)} {thr : List (Nat × Nat × Nat)} (hown : y.cls = own) (hLO : ∀ q ∈ lkl, pd_LO own q.1 q.2) (hlk : me.lk = pd_lk lkl) (hthr : ∀ q ∈ thr, ∃ is ic text names, mm_TH pd_TT pd_strs bytes own (pd_ex q.2.2) q.1 q.2.1 is ic text names) (hb : pd_ibs me y bytes ret thr me.dec 0 = true) : pd_MOK y bytes ret me := by
  subst hown
  intro pc i n hd
  have h := pd_ibs_at me.dec 0 pc hb hd
  rw [Nat.zero_add] at h
  unfold pd_ib at h
  simp only [Bool.and_eq_true, Bool.or_eq_true, decide_eq_true_eq, List.all_eq_true] at h
  obtain ⟨h1, h2, h3, h4, h5, h6⟩ := h
  refine ⟨h1, fun hne => ?_, h3, h4, h5, ?_⟩
  · rcases h2 with h2 | h2
    · exact absurd (Nat.eq_of_beq_eq_true h2) hne
    · exact Nat.eq_of_beq_eq_true h2
  · have hL : ∀ ix k, me.lk ix = some k → pd_LO y.cls ix k := fun ix k hk => hLO (ix, k) (pd_lk_mem (by rw [← hlk]; exact hk))
    cases i with
    | ldc ix => intro k hk h9; exact absurd h9 (hL ix k hk).2.2.2.2.2.2.2.2.2.2
    | ldc2_w ix => intro k hk; exact ⟨(hL ix k hk).2.2.2.2.2.2.2.2.1, (hL ix k hk).2.2.2.2.2.2.2.2.2.1⟩
    | getfield ix => intro k hk; exact (hL ix k hk).1
    | putfield ix =>
      intro k hk h0
      obtain ⟨C, T, N, hF⟩ := (hL ix k hk).1 h0
      refine ⟨C, T, N, hF, ?_⟩
      have h6 : (match me.lk ix with
        | some k => match pd_cl[k.2.1]? with
          | some (_, T, _) => !(T k.2.2.1).2.2.2 || (decide (y.name = "<init>") && decide ((T k.2.2.1).1 = y.cls))
          | none => false
        | none => true) = true := h6
      rw [hk] at h6
      have h6 : (match pd_cl[k.2.1]? with
          | some (_, T, _) => !(T k.2.2.1).2.2.2 || (decide (y.name = "<init>") && decide ((T k.2.2.1).1 = y.cls))
          | none => false) = true := h6
      rw [hF.1] at h6
      simp only [Bool.or_eq_true, Bool.not_eq_true', Bool.and_eq_true, decide_eq_true_eq] at h6
      exact h6
    | new ix =>
      intro k hk
      refine ⟨fun h0 => ?_, fun h0 => ?_⟩
      · obtain ⟨C, T, N, g1, g2, g3, g4, -⟩ := (hL ix k hk).2.2.2.2.2.1 h0
        exact ⟨C, T, N, g1, g2, g3, g4⟩
      · have h6 : (match me.lk ix with
          | some k => !(Nat.beq k.1 5) || decide ((pc, ix, k.2.1) ∈ thr)
          | none => true) = true := h6
        rw [hk] at h6
        have h6 : (!(Nat.beq k.1 5) || decide ((pc, ix, k.2.1) ∈ thr)) = true := h6
        rw [h0] at h6
        have h6 : decide ((pc, ix, k.2.1) ∈ thr) = true := h6
        exact hthr _ (of_decide_eq_true h6)
    | anewarray ix =>
      intro k hk h0
      obtain ⟨C, T, N, g1, g2, g3, g4, g5⟩ := (hL ix k hk).2.2.2.2.2.1 h0
      have h6 : (match me.lk ix with
        | some k => Nat.beq (mm_ty (pd_ak (10 + k.2.1))) 5
        | none => true) = true := h6
      rw [hk] at h6
      have h7 := g5 (Nat.eq_of_beq_eq_true h6)
      exact ⟨C, h7.1, g2, h7.2⟩
    | newarray t =>
      cases t with
      | int => exact pd_wa_int
      | char => exact pd_wa_char
      | double => exact pd_wa_double
      | long => exact pd_wa_long
      | boolean => exact pd_wa_boolean
      | _ => cases h6
    | invokevirtual ix => intro k hk; exact (hL ix k hk).2.1
    | invokespecial ix => intro k hk; exact ⟨(hL ix k hk).2.2.2.2.2.2.1, (hL ix k hk).2.2.2.2.1⟩
    | invokestatic ix => intro k hk; exact ⟨(hL ix k hk).2.2.1, (hL ix k hk).2.2.2.1⟩
    | ireturn => exact (of_decide_eq_true (p := ret = some (match me.rk with
        | 0 => .int
        | 1 => .char
        | _ => .boolean)) h6 :)
    | lreturn => exact (of_decide_eq_true (p := ret = some .long) h6 :)
    | dreturn => exact (of_decide_eq_true (p := ret = some .double) h6 :)
    | areturn =>
      clear hb hthr h1
      cases ret with
      | none => cases h6
      | some rt =>
        cases rt with
        | object n => exact ⟨_, rfl, .inl ⟨_, rfl⟩⟩
        | array n => exact ⟨_, rfl, .inr ⟨_, rfl⟩⟩
        | _ => cases h6
    | return_ => exact (of_decide_eq_true (p := ret = none) h6 :)
    | _ => trivial
/-! throws -/
def pd_names : List String := ["java/lang/RuntimeException", "java/lang/Exception"]
def pd_gw (w : Cond) : Bool := (mm_wd w && decide (w ∈ lw_tbl)) || decide (w ∈ mm_HW)
theorem pd_gw_spec {w : Cond} (h : pd_gw w = true) : w ∈ pd_TT ∨ w ∈ mm_HW := by
  unfold pd_gw at h
  simp only [Bool.or_eq_true, Bool.and_eq_true, decide_eq_true_eq] at h
  rcases h with ⟨h1, h2⟩ | h
  · exact .inl (List.mem_filter.mpr ⟨h2, h1⟩)
  · exact .inr h
def pd_oal (X : String) (ix : Nat) (rx : ByteArray) : List Cond := (Bundle.throwableAtoms ++ Bundle.throwableSAtoms) ++ ((Bundle.passSAtoms X "java/lang/RuntimeException" ix rx ++ Bundle.chainSAtoms "java/lang/RuntimeException" ["java/lang/Exception"]) ++ (mm_tl "" 0 X).drop 1)
/-- what is checked of a thrown class once -/
def pd_oaP (X : String) (ix : Nat) (rx : ByteArray) : Prop := (pd_oal X ix rx).all pd_gw = true ∧ decode rx 0 = .ok (.aload_n 0, 1) ∧ decode rx 1 = .ok (.aload_n 1, 1) ∧ decode rx 2 = .ok (.invokespecial ix, 3) ∧ decode rx 5 = .ok (.return_, 1)
theorem pd_oaw {own X : String} {ic ix : Nat} {rx : ByteArray} (h : (pd_oal X ix rx).all pd_gw = true) (hm : Cond.methodLink own ic (Bundle.initS X) ∈ pd_TT) : ∀ w ∈ mm_oa own ic X ix rx "java/lang/RuntimeException" ["java/lang/Exception"], w ∈ pd_TT ∨ w ∈ mm_HW := by
  intro w hw
  have h := List.all_eq_true.mp h
  rcases List.mem_append.mp hw with h1 | h1
  · exact pd_gw_spec (h w (List.mem_append.mpr (.inl h1)))
  · rcases List.mem_append.mp h1 with h1 | h1
    · exact pd_gw_spec (h w (List.mem_append.mpr (.inr (List.mem_append.mpr (.inl h1)))))
    · rcases List.mem_cons.mp h1 with h2 | h2
      · rw [h2]; exact .inl hm
      · exact pd_gw_spec (h w (List.mem_append.mpr (.inr (List.mem_append.mpr (.inr h2)))))
theorem pd_th {own X : String} {cc : ByteArray} {pc ik is ic ix : Nat} {rx : ByteArray} {text : String} (h : pd_oaP X ix rx) (f1 : Bundle.fit X = true) (f2 : ∀ n ∈ pd_names, Bundle.fit n = true) (w1 : Cond.classLink own ik X ∈ pd_TT) (w2 : Cond.initialized X ∈ pd_TT) (w3 : Cond.instantiable X 6 ∈ pd_TT) (hs : (own, is, text) ∈ pd_strs) (w4 : Cond.methodLink own ic (Bundle.initS X) ∈ pd_TT)
    (d0 : decode cc pc = .ok (.new ik, 3)) (d3 : decode cc (pc + 3) = .ok (.dup, 1)) (d4 : decode cc (pc + 4) = .ok (.ldc is, 2)) (d6 : decode cc (pc + 6) = .ok (.invokespecial ic, 3)) (d9 : decode cc (pc + 9) = .ok (.athrow, 1)) : mm_TH pd_TT pd_strs cc own X pc ik is ic text pd_names :=
  ⟨f1, f2, w1, w2, w3, hs, ⟨ix, rx, _, _, rfl, h.2.1, h.2.2.1, h.2.2.2.1, h.2.2.2.2, pd_oaw h.1 w4⟩, by decide, d0, d3, d4, d6, d9⟩
/-! handlers -/
def pd_hb (lk : Nat → Option mm_K) (hs : List (Nat × Nat × Nat × Nat)) : Bool := hs.all fun h => !(Nat.beq h.2.2.2 0) && (match lk h.2.2.2 with
  | some k => !(Nat.beq k.1 5) || (decide (Cond.classLink "PascalDeskLaw" h.2.2.2 (pd_ex k.2.1) ∈ lw_tbl) && (mm_wd (Cond.classLink "PascalDeskLaw" h.2.2.2 (pd_ex k.2.1)) && (decide (Cond.castable (pd_ex k.2.1) (pd_ex k.2.1) ∈ lw_tbl) && (List.range 5).all fun E => Nat.beq E k.2.1 || decide ((pd_ex E, pd_ex k.2.1) ∈ pd_nc))))
  | none => true)
theorem pd_HOK.of {me : mm_Me} {hs : List (Nat × Nat × Nat × Nat)} {lk : Nat → Option mm_K} (h1 : me.hs = hs) (h2 : me.lk = lk) (h : pd_hb lk hs = true) : mm_HOK pd_TT pd_nc pd_ex "PascalDeskLaw" me := by
  intro a b t ix hm
  rw [h1] at hm
  have h3 := List.all_eq_true.mp h _ hm
  rw [Bool.and_eq_true] at h3
  refine ⟨?_, ?_⟩
  · intro h0
    have h4 := h3.1
    rw [show ((a, b, t, ix) : Nat × Nat × Nat × Nat).2.2.2 = 0 from h0] at h4
    cases h4
  · intro E' ⟨q, hq⟩
    rw [h2] at hq
    have h4 : (match lk ix with
      | some k => !(Nat.beq k.1 5) || (decide (Cond.classLink "PascalDeskLaw" ix (pd_ex k.2.1) ∈ lw_tbl) && (mm_wd (Cond.classLink "PascalDeskLaw" ix (pd_ex k.2.1)) && (decide (Cond.castable (pd_ex k.2.1) (pd_ex k.2.1) ∈ lw_tbl) && (List.range 5).all fun E => Nat.beq E k.2.1 || decide ((pd_ex E, pd_ex k.2.1) ∈ pd_nc))))
      | none => true) = true := h3.2
    rw [hq] at h4
    have h4 : (decide (Cond.classLink "PascalDeskLaw" ix (pd_ex E') ∈ lw_tbl) && (mm_wd (Cond.classLink "PascalDeskLaw" ix (pd_ex E')) && (decide (Cond.castable (pd_ex E') (pd_ex E') ∈ lw_tbl) && (List.range 5).all fun E => Nat.beq E E' || decide ((pd_ex E, pd_ex E') ∈ pd_nc)))) = true := h4
    simp only [Bool.and_eq_true, decide_eq_true_eq, List.all_eq_true, Bool.or_eq_true, List.mem_range] at h4
    obtain ⟨g1, g2, g3, g4⟩ := h4
    refine ⟨List.mem_filter.mpr ⟨g1, g2⟩, List.mem_filter.mpr ⟨g3, rfl⟩, fun E hE hne => ?_⟩
    rcases g4 E hE with h9 | h9
    · exact absurd (Nat.eq_of_beq_eq_true h9) hne
    · exact h9
theorem pd_allH {l : List (Option (Instr × Nat))} (h : (l.all fun o => match o with
    | some q => mm_isH q.1
    | none => true) = true) : ∀ (pc : Nat) (i : Instr) (n : Nat), l[pc]? = some (some (i, n)) → mm_isH i = true := fun pc i n hd => List.all_eq_true.mp h _ (List.mem_of_getElem? hd)
def pd_okq (q : pd_R) : Prop :=
  plainFor q.1 = true ∧ pd_MOK q.1 q.2.1 q.2.2.1 q.2.2.2.2 ∧
  ((q.2.2.2.2.hs = [] ∧ q.2.2.2.1 = .code q.1 q.2.1 q.2.2.2.2.nL q.2.2.1) ∨ (q.2.2.2.2.hs ≠ [] ∧ q.2.2.2.1 = .codeWith q.1 q.2.1 q.2.2.2.2.nL q.2.2.1 q.2.2.2.2.hs ∧ (∀ (pc : Nat) (i : Instr) (n : Nat), q.2.2.2.2.dec[pc]? = some (some (i, n)) → mm_isH i = true) ∧ q.2.2.2.2.rk = 0 ∧ mm_HOK pd_TT pd_nc pd_ex q.1.cls q.2.2.2.2))
