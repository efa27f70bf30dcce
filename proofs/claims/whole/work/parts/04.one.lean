/-! ONE INSTRUCTION -/
def mm_len : Instr → Nat
  | .bipush _ | .iload _ | .lload _ | .dload _ | .aload _ | .istore _ | .lstore _ | .dstore _ | .astore _ | .ldc _ | .newarray _ => 2
  | .sipush _ | .ldc2_w _ | .ldc_w _ | .iinc _ _ | .goto _ | .ifCond _ _ | .if_icmp _ _ | .ifnull _ | .ifnonnull _ | .getfield _ | .putfield _ | .new _ | .anewarray _ | .invokevirtual _ | .invokespecial _ | .invokestatic _ => 3
  | .tableswitch _ _ _ _ | .lookupswitch _ _ => 0
  | _ => 1
def mm_offs : Instr → List Int
  | .goto o => [o]
  | .ifCond _ o => [o]
  | .if_icmp _ o => [o]
  | .ifnull o => [o]
  | .ifnonnull o => [o]
  | .tableswitch d _ _ os => d :: os.toList
  | .lookupswitch d ps => d :: ps.toList.map (·.2)
  | _ => []
theorem mm_tg_eq {pc : Nat} {o : Int} (h : 0 ≤ (pc : Int) + o) : (pc : Int) + o = (mm_tg pc o : Int) := (Int.toNat_of_nonneg h).symm
theorem mm_i_inv {st : List Value} {f : Int32 → List Value → mm_N} {z : mm_Z ⊕ mm_O} (h : mm_i st f = some z) : ∃ x r, st = .int x :: r ∧ f x r = some z := by
  unfold mm_i at h
  split at h
  · exact ⟨_, _, rfl, h⟩
  · cases h
theorem mm_ii_inv {st : List Value} {f : Int32 → Int32 → List Value → mm_N} {z : mm_Z ⊕ mm_O} (h : mm_ii st f = some z) : ∃ x y r, st = .int y :: .int x :: r ∧ f x y r = some z := by
  unfold mm_ii at h
  split at h
  · exact ⟨_, _, _, rfl, h⟩
  · cases h
theorem mm_j_inv {st : List Value} {f : Int64 → List Value → mm_N} {z : mm_Z ⊕ mm_O} (h : mm_j st f = some z) : ∃ x r, st = .long x :: r ∧ f x r = some z := by
  unfold mm_j at h
  split at h
  · exact ⟨_, _, rfl, h⟩
  · cases h
theorem mm_jj_inv {st : List Value} {f : Int64 → Int64 → List Value → mm_N} {z : mm_Z ⊕ mm_O} (h : mm_jj st f = some z) : ∃ x y r, st = .long y :: .long x :: r ∧ f x y r = some z := by
  unfold mm_jj at h
  split at h
  · exact ⟨_, _, _, rfl, h⟩
  · cases h
theorem mm_ji_inv {st : List Value} {f : Int64 → Int32 → List Value → mm_N} {z : mm_Z ⊕ mm_O} (h : mm_ji st f = some z) : ∃ x y r, st = .int y :: .long x :: r ∧ f x y r = some z := by
  unfold mm_ji at h
  split at h
  · exact ⟨_, _, _, rfl, h⟩
  · cases h
theorem mm_d_inv {st : List Value} {f : UInt64 → List Value → mm_N} {z : mm_Z ⊕ mm_O} (h : mm_d st f = some z) : ∃ x r, st = .double x :: r ∧ f x r = some z := by
  unfold mm_d at h
  split at h
  · exact ⟨_, _, rfl, h⟩
  · cases h
theorem mm_dd_inv {st : List Value} {f : UInt64 → UInt64 → List Value → mm_N} {z : mm_Z ⊕ mm_O} (h : mm_dd st f = some z) : ∃ x y r, st = .double y :: .double x :: r ∧ f x y r = some z := by
  unfold mm_dd at h
  split at h
  · exact ⟨_, _, _, rfl, h⟩
  · cases h
theorem mm_r_inv {st : List Value} {f : Nat → List Value → mm_N} {z : mm_Z ⊕ mm_O} (h : mm_r st f = some z) : ∃ a r, st = .ref a :: r ∧ f a r = some z := by
  unfold mm_r at h
  split at h
  · exact ⟨_, _, rfl, h⟩
  · cases h
theorem mm_1_inv {st : List Value} {f : Value → List Value → mm_N} {z : mm_Z ⊕ mm_O} (h : mm_1 st f = some z) : ∃ v r, st = v :: r ∧ f v r = some z := by
  unfold mm_1 at h
  split at h
  · exact ⟨_, _, rfl, h⟩
  · cases h
theorem mm_2_inv {st : List Value} {f : Value → Value → List Value → mm_N} {z : mm_Z ⊕ mm_O} (h : mm_2 st f = some z) : ∃ v w r, st = v :: w :: r ∧ f v w r = some z := by
  unfold mm_2 at h
  split at h
  · exact ⟨_, _, _, rfl, h⟩
  · cases h
theorem mm_3_inv {st : List Value} {f : Value → Value → Value → List Value → mm_N} {z : mm_Z ⊕ mm_O} (h : mm_3 st f = some z) : ∃ v w u r, st = v :: w :: u :: r ∧ f v w u r = some z := by
  unfold mm_3 at h
  split at h
  · exact ⟨_, _, _, _, rfl, h⟩
  · cases h
theorem mm_lI_inv {L : mm_L} {n : Nat} {f : Int32 → mm_N} {z : mm_Z ⊕ mm_O} (h : mm_lI L n f = some z) : ∃ x, mm_ld L n = some (.int x) ∧ f x = some z := by
  unfold mm_lI at h
  split at h
  next hx => exact ⟨_, hx, h⟩
  next => cases h
theorem mm_lJ_inv {L : mm_L} {n : Nat} {f : Int64 → mm_N} {z : mm_Z ⊕ mm_O} (h : mm_lJ L n f = some z) : ∃ x, mm_ld L n = some (.long x) ∧ f x = some z := by
  unfold mm_lJ at h
  split at h
  next hx => exact ⟨_, hx, h⟩
  next => cases h
theorem mm_lD_inv {L : mm_L} {n : Nat} {f : UInt64 → mm_N} {z : mm_Z ⊕ mm_O} (h : mm_lD L n f = some z) : ∃ x, mm_ld L n = some (.double x) ∧ f x = some z := by
  unfold mm_lD at h
  split at h
  next hx => exact ⟨_, hx, h⟩
  next => cases h
theorem mm_lA_inv {L : mm_L} {n : Nat} {f : Value → mm_N} {z : mm_Z ⊕ mm_O} (h : mm_lA L n f = some z) : (∃ x, mm_ld L n = some (.ref x) ∧ f (.ref x) = some z) ∨ (∃ x, mm_ld L n = some (.retAddr x) ∧ f (.retAddr x) = some z) := by
  unfold mm_lA at h
  split at h
  next hx => exact Or.inl ⟨_, hx, h⟩
  next hx => exact Or.inr ⟨_, hx, h⟩
  next => cases h
theorem mm_lk_inv {me : mm_Me} {ix : Nat} {f : mm_K → mm_N} {z : mm_Z ⊕ mm_O} (h : mm_lk me ix f = some z) : ∃ k, me.lk ix = some k ∧ f k = some z := by
  unfold mm_lk at h
  split at h
  next k hx => exact ⟨k, hx, h⟩
  next => cases h
theorem mm_cond_inv {q : Bool} {A : mm_N} {z : mm_Z ⊕ mm_O} (h : cond q A none = some z) : q = true ∧ A = some z := by
  cases q with
  | true => exact ⟨rfl, h⟩
  | false => cases h
theorem mm_cond2_inv {q : Bool} {A A' : mm_N} {z : mm_Z ⊕ mm_O} (h : cond q A A' = some z) : (q = true ∧ A = some z) ∨ (q = false ∧ A' = some z) := by
  cases q with
  | true => exact Or.inl ⟨rfl, h⟩
  | false => exact Or.inr ⟨rfl, h⟩
theorem mm_condn_inv {q : Bool} {A : mm_N} {z : mm_Z ⊕ mm_O} (h : cond q none A = some z) : q = false ∧ A = some z := by
  cases q with
  | true => cases h
  | false => exact ⟨rfl, h⟩
theorem mm_noT_inv {r : mm_N} {z : mm_Z ⊕ mm_O} (h : mm_noT r = some z) : r = some z ∧ ∃ z', z = .inl z' := by
  unfold mm_noT at h
  split at h
  next z' => cases h; exact ⟨rfl, z', rfl⟩
  next => cases h
theorem mm_al_inv {S : mm_St} {A : mm_N} {z : mm_Z ⊕ mm_O} (h : mm_al S A = some z) : S.2.2 = 0 ∧ A = some z := by
  unfold mm_al at h
  split at h
  next hx => exact ⟨hx, h⟩
  next => cases h
theorem mm_ix_inv {i : Int32} {n : Nat} {A : mm_N} {z : mm_Z ⊕ mm_O} (h : mm_ix i n A = some z) : vp_in i n ∧ A = some z := by
  unfold mm_ix at h
  split at h
  next => cases h
  next hx => exact ⟨hx, h⟩
theorem mm_ar_inv {ak : Nat → FieldType} {S : mm_St} {a ty : Nat} {f : Nat → mm_N} {z : mm_Z ⊕ mm_O} (h : mm_ar ak S a ty f = some z) : ∃ t n, S.1[a]? = some (.inr (t, n)) ∧ mm_ty (ak t) = ty ∧ f n = some z := by
  unfold mm_ar at h
  split at h
  next t n hx =>
    obtain ⟨h1, h2⟩ := mm_cond_inv h
    exact ⟨t, n, hx, Nat.eq_of_beq_eq_true h1, h2⟩
  next => cases h
theorem mm_ai_inv {ak : Nat → FieldType} {S : mm_St} {st : List Value} {ty : Nat} {f : Int32 → Nat → List Value → mm_N} {z : mm_Z ⊕ mm_O} (h : mm_ai ak S st ty f = some z) : ∃ i a r t n, st = .int i :: .ref a :: r ∧ S.1[a]? = some (.inr (t, n)) ∧ mm_ty (ak t) = ty ∧ vp_in i n ∧ f i a r = some z := by
  unfold mm_ai at h
  split at h
  next i a r =>
    obtain ⟨t, n, h1, h2, h3⟩ := mm_ar_inv h
    obtain ⟨h4, h5⟩ := mm_ix_inv h3
    exact ⟨i, a, r, t, n, rfl, h1, h2, h4, h5⟩
  next => cases h
/-! locals -/
def mm_LR (B b : Nat) (ls : Array Slot) (n : Nat) (L : mm_L) : Prop := ls.size = n ∧ lv_wf ls ∧ ∀ i v, mm_ld L i = some v → ls[i]? = some (.val (mm_v B b v))
def mm_as (B b : Nat) (L : mm_L) : List (Nat × Value) := (List.range L.length).filterMap fun i => (mm_ld L i).map fun v => (i, mm_v B b v)
theorem mm_ld_lt {L : mm_L} {i : Nat} {v : Value} (h : mm_ld L i = some v) : i < L.length := by
  unfold mm_ld at h
  split at h
  next hx => exact (List.getElem?_eq_some_iff.mp hx).1
  next => cases h
theorem mm_as_mem {B b : Nat} {L : mm_L} {i : Nat} {v : Value} (h : mm_ld L i = some v) : (i, mm_v B b v) ∈ mm_as B b L :=
  List.mem_filterMap.mpr ⟨i, List.mem_range.mpr (mm_ld_lt h), by rw [h]; rfl⟩
theorem mm_as_of {B b : Nat} {L : mm_L} {q : Nat × Value} (h : q ∈ mm_as B b L) : ∃ v, mm_ld L q.1 = some v ∧ q.2 = mm_v B b v := by
  obtain ⟨i, -, h2⟩ := List.mem_filterMap.mp h
  cases hv : mm_ld L i with
  | none => rw [hv] at h2; cases h2
  | some v =>
    rw [hv] at h2
    cases h2
    exact ⟨v, hv, rfl⟩
theorem mm_LR.has {B b : Nat} {ls : Array Slot} {n : Nat} {L : mm_L} (h : mm_LR B b ls n L) : lv_has ls n (mm_as B b L) := ⟨h.1, h.2.1, fun q hq => by
  obtain ⟨v, h1, h2⟩ := mm_as_of hq
  rw [h2]
  exact h.2.2 _ _ h1⟩
theorem mm_sto_at (L : mm_L) : ∀ (j k i : Nat) (v : Value), (mm_sto L j i v)[k]? = (L[k]?).map fun o => cond (Nat.beq (j + k) i) (some v) (cond ((Nat.beq (j + k) (i + 1) && mm_c2 v) || (Nat.beq (j + k + 1) i && mm_o2 o)) none o) := by
  induction L with
  | nil => intro j k i v; rfl
  | cons o L ih =>
    intro j k i v
    cases k with
    | zero => rfl
    | succ k =>
      have h := ih (j + 1) k i v
      rw [show j + 1 + k = j + (k + 1) by omega] at h
      exact h
theorem mm_sto_ld {L : mm_L} {i j : Nat} {v w : Value} (h : mm_ld (mm_sto L 0 i v) j = some w) : (j = i ∧ w = v) ∨ (mm_ld L j = some w ∧ j ≠ i ∧ (mm_c2 v = true → j ≠ i + 1) ∧ (mm_c2 w = true → j + 1 ≠ i)) := by
  unfold mm_ld at h
  rw [mm_sto_at] at h
  cases ho : L[j]? with
  | none => rw [ho] at h; cases h
  | some o =>
    rw [ho] at h
    simp only [Option.map_some, Nat.zero_add] at h
    by_cases e1 : j = i
    · subst e1
      rw [Nat.beq_refl] at h
      cases h
      exact Or.inl ⟨rfl, rfl⟩
    · have b1 : Nat.beq j i = false := by
        cases hb : Nat.beq j i
        · rfl
        · exact absurd (Nat.eq_of_beq_eq_true hb) e1
      rw [b1] at h
      cases hq : ((Nat.beq j (i + 1) && mm_c2 v) || (Nat.beq (j + 1) i && mm_o2 o)) with
      | true => rw [hq] at h; cases h
      | false =>
        rw [hq] at h
        have h : o = some w := h
        subst h
        refine Or.inr ⟨by unfold mm_ld; rw [ho], e1, fun hc e => ?_, fun hc e => ?_⟩
        · subst e
          rw [Nat.beq_refl, hc] at hq
          cases hq
        · rw [e, Nat.beq_refl] at hq
          simp only [mm_o2, hc, Bool.and_self, Bool.or_true] at hq
          cases hq
theorem mm_LR.st1 {B b : Nat} {ls : Array Slot} {n i : Nat} {L : mm_L} {v : Value} (hc : mm_c2 v = false)
    (h : lv_has ls n ((i, mm_v B b v) :: (mm_as B b L).filter (fun q => !(q.1 == i) && !(q.1 + 1 == i && q.2.category == 2)))) : mm_LR B b ls n (mm_sto L 0 i v) := by
  refine ⟨h.1, h.2.1, fun j w hw => ?_⟩
  rcases mm_sto_ld hw with ⟨rfl, rfl⟩ | ⟨h1, h2, -, h4⟩
  · exact h.2.2 (j, mm_v B b w) List.mem_cons_self
  · refine h.2.2 (j, mm_v B b w) (List.mem_cons_of_mem _ (List.mem_filter.mpr ⟨mm_as_mem h1, ?_⟩))
    have e1 : (j == i) = false := by simp [h2]
    have e2 : (j + 1 == i && (mm_v B b w).category == 2) = false := by
      cases hw2 : mm_c2 w with
      | true => simp [h4 hw2]
      | false => simp [mm_v_cat, hw2]
    simp only [e1, e2]
    rfl
theorem mm_LR.st2 {B b : Nat} {ls : Array Slot} {n i : Nat} {L : mm_L} {v : Value} (hc : mm_c2 v = true)
    (h : lv_has ls n ((i, mm_v B b v) :: (mm_as B b L).filter (fun q => !(q.1 == i) && (!(q.1 == i + 1) && !(q.1 + 1 == i && q.2.category == 2))))) : mm_LR B b ls n (mm_sto L 0 i v) := by
  refine ⟨h.1, h.2.1, fun j w hw => ?_⟩
  rcases mm_sto_ld hw with ⟨rfl, rfl⟩ | ⟨h1, h2, h3, h4⟩
  · exact h.2.2 (j, mm_v B b w) List.mem_cons_self
  · refine h.2.2 (j, mm_v B b w) (List.mem_cons_of_mem _ (List.mem_filter.mpr ⟨mm_as_mem h1, ?_⟩))
    have e1 : (j == i) = false := by simp [h2]
    have e3 : (j == i + 1) = false := by simp [h3 hc]
    have e2 : (j + 1 == i && (mm_v B b w).category == 2) = false := by
      cases hw2 : mm_c2 w with
      | true => simp [h4 hw2]
      | false => simp [mm_v_cat, hw2]
    simp only [e1, e2, e3]
    rfl
