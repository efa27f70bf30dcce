/-! METHODS WITH HANDLERS -/
theorem mm_clr_at (L : mm_L) : ∀ (j k i : Nat), (mm_clr L j i)[k]? = (L[k]?).map fun o => cond (Nat.beq (j + k) i || (Nat.beq (j + k + 1) i && mm_o2 o)) none o := by
  induction L with
  | nil => intro j k i; rfl
  | cons o L ih =>
    intro j k i
    cases k with
    | zero => rfl
    | succ k =>
      have h := ih (j + 1) k i
      rw [show j + 1 + k = j + (k + 1) by omega] at h
      exact h
theorem mm_clr_ld {L : mm_L} {i j : Nat} {w : Value} (h : mm_ld (mm_clr L 0 i) j = some w) : mm_ld L j = some w ∧ j ≠ i ∧ (mm_c2 w = true → j + 1 ≠ i) := by
  unfold mm_ld at h
  rw [mm_clr_at] at h
  cases ho : L[j]? with
  | none => rw [ho] at h; cases h
  | some o =>
    rw [ho] at h
    simp only [Option.map_some, Nat.zero_add] at h
    cases hq : (Nat.beq j i || (Nat.beq (j + 1) i && mm_o2 o)) with
    | true => rw [hq] at h; cases h
    | false =>
      rw [hq] at h
      have h : o = some w := h
      subst h
      rw [Bool.or_eq_false_iff] at hq
      refine ⟨by unfold mm_ld; rw [ho], fun e => ?_, fun hc e => ?_⟩
      · subst e
        rw [Nat.beq_refl] at hq
        cases hq.1
      · rw [e, Nat.beq_refl] at hq
        have h9 := hq.2
        simp only [mm_o2, hc, Bool.and_self] at h9
        cases h9
theorem mm_LR.clr {B b : Nat} {ls : Array Slot} {n i : Nat} {L : mm_L} {v : Value}
    (h : lv_has ls n ((i, v) :: (mm_as B b L).filter (fun q => !(q.1 == i) && !(q.1 + 1 == i && q.2.category == 2)))) : mm_LR B b ls n (mm_clr L 0 i) := by
  refine ⟨h.1, h.2.1, fun j w hw => ?_⟩
  obtain ⟨h1, h2, h4⟩ := mm_clr_ld hw
  refine h.2.2 (j, mm_v B b w) (List.mem_cons_of_mem _ (List.mem_filter.mpr ⟨mm_as_mem h1, ?_⟩))
  have e1 : (j == i) = false := by simp [h2]
  have e2 : (j + 1 == i && (mm_v B b w).category == 2) = false := by
    cases hw2 : mm_c2 w with
    | true => simp [h4 hw2]
    | false => simp [mm_v_cat, hw2]
  simp only [e1, e2]
  rfl
/-- what the rows of a table rest on, for every class that is thrown -/
def mm_HOK (TT : List Cond) (nc : List (String × String)) (ex : Nat → String) (own : String) (me : mm_Me) : Prop :=
  ∀ a b t ix, (a, b, t, ix) ∈ me.hs → ix ≠ 0 ∧ ∀ E', (∃ q, me.lk ix = some (5, E', q)) → Cond.classLink own ix (ex E') ∈ TT ∧ Cond.castable (ex E') (ex E') ∈ TT ∧ ∀ E, E < 5 → E ≠ E' → (ex E, ex E') ∈ nc
section HAND
variable {p : Program} {l : Launch} {e : Env} {R : Room} {s : State} {m : MethodId} {args : Array Value} {below : List Frame} {meth : Method} {c : Code} {Q : State → Prop} {H : Heap} {locs : List Loc} {cells slots : Nat} {ls : Array Slot}
variable {D : va_G} {cl : List vw_C} {tys : List (ClassId × FieldType)} {ck : Nat → List Nat} {ct : Nat → Nat → FieldType} {ak : Nat → FieldType} {dA : Nat → ClassId} {B b Ls nL pc : Nat} {xs : Nat → Int32} {TT : List Cond} {strs : List (String × Nat × String)} {nc : List (String × String)} {cc : ByteArray} {own : String} {me : mm_Me} {L : mm_L} {st : List Value} {S S0 : mm_St} {z' : mm_Z} {ex : Nat → String} {mc ms : Nat}
variable {call : Nat → List Value → mm_St → Option mm_O} {yj : Nat → MethodName} {cw : Nat → Cond} {d : Nat}
theorem mm_hs_spec {E : Nat} {thrown : ClassId} {pl : Platform} (hpl : pl.magicAccessors = ({} : Platform).magicAccessors) (hown : s.vm.findClass own = some m.cls) (hts : ∀ w ∈ TT, w.before args s = true) (hnc : ∀ q ∈ nc, va_Nc q.1 q.2 s) (hth : s.vm.findClass (ex E) = some thrown) (hE5 : E < 5) {r : mm_Z ⊕ mm_O} :
    ∀ (hs : List (Nat × Nat × Nat × Nat)) (rows : List ExceptionTableEntry), rows.map (fun h => (h.startPc, h.endPc, h.handlerPc, h.catchType)) = hs → (∀ a b t ix, (a, b, t, ix) ∈ hs → ix ≠ 0 ∧ ∀ E', (∃ q, me.lk ix = some (5, E', q)) → Cond.classLink own ix (ex E') ∈ TT ∧ Cond.castable (ex E') (ex E') ∈ TT ∧ ∀ E, E < 5 → E ≠ E' → (ex E, ex E') ∈ nc) → mm_hs me pc L E S hs = some r →
      ∃ t, mm_Rw pl s m.cls pc thrown t rows ∧ ((∃ (i : Fin 4) (n : Nat), me.dec[t]? = some (some (.astore_n i, n)) ∧ r = .inl (t + 1, mm_clr L 0 i, [], S)) ∨ (∃ (i n : Nat), me.dec[t]? = some (some (.astore i, n)) ∧ r = .inl (t + 2, mm_clr L 0 i, [], S))) := by
  intro hs
  induction hs with
  | nil => intro rows _ _ h; cases h
  | cons q hs ih =>
    intro rows hm hok h
    obtain ⟨a, b9, t, ix⟩ := q
    cases rows with
    | nil => cases hm
    | cons x rows =>
      rw [List.map_cons] at hm
      injection hm with hx hm
      have hok2 := fun a b t ix q => hok a b t ix (List.mem_cons_of_mem _ q)
      obtain rfl : x.startPc = a := congrArg (·.1) hx
      obtain rfl : x.endPc = b9 := congrArg (·.2.1) hx
      obtain rfl : x.handlerPc = t := congrArg (·.2.2.1) hx
      obtain rfl : x.catchType = ix := congrArg (·.2.2.2) hx
      unfold mm_hs at h
      rcases mm_cond2_inv h with ⟨hc, h9⟩ | ⟨hc, h9⟩
      · have hcov : covers x pc = true := by
          rw [Bool.and_eq_true] at hc
          have c1 := Nat.le_of_ble_eq_true hc.1
          have c2 := Nat.le_of_ble_eq_true hc.2
          simp only [covers, Bool.and_eq_true, decide_eq_true_eq]
          omega
        split at h9
        next E' q8 q9 hlk =>
          obtain ⟨h0, hw⟩ := hok _ _ _ _ List.mem_cons_self
          obtain ⟨w1, w2, w3⟩ := hw E' ⟨_, hlk⟩
          obtain ⟨c', hc', hcl⟩ := Cond.classLink_spec hown (hts _ w1) pl hpl
          rcases mm_cond2_inv h9 with ⟨hq, h8⟩ | ⟨hq, h8⟩
          · have hq := Nat.eq_of_beq_eq_true hq
            obtain ⟨c3, c4, hc3, hc4, hasg⟩ := Cond.castable_spec (hts _ w2)
            rw [← hq] at hc3
            cases hc3.symm.trans hth
            cases hc4.symm.trans hc'
            refine ⟨x.handlerPc, Or.inr ⟨hcov, h0, c', hcl, Or.inl ⟨hasg, rfl⟩⟩, ?_⟩
            split at h8
            next i n hd => cases h8; exact Or.inl ⟨i, n, hd, rfl⟩
            next i n hd => cases h8; exact Or.inr ⟨i, n, hd, rfl⟩
            next => cases h8
          · have hne : E ≠ E' := fun e => by rw [e, Nat.beq_refl] at hq; cases hq
            obtain ⟨a8, b8, n1, n2, n3⟩ := hnc _ (w3 E hE5 hne)
            cases n1.symm.trans hth
            cases n2.symm.trans hc'
            obtain ⟨t9, r1, r2⟩ := ih rows hm hok2 h8
            exact ⟨t9, Or.inr ⟨hcov, h0, c', hcl, Or.inr ⟨n3, r1⟩⟩, r2⟩
        next => cases h9
      · have hcov : covers x pc = false := by
          cases hv : covers x pc with
          | false => rfl
          | true =>
            simp only [covers, Bool.and_eq_true, decide_eq_true_eq] at hv
            rw [Nat.ble_eq_true_of_le hv.1, Nat.ble_eq_true_of_le (show pc + 1 ≤ x.endPc by omega)] at hc
            cases hc
        obtain ⟨t9, r1, r2⟩ := ih rows hm hok2 h9
        exact ⟨t9, Or.inl ⟨hcov, r1⟩, r2⟩
end HAND
