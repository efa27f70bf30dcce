/-! THE INSTRUCTIONS ON CELLS -/
/-- cells made, throws -/
def mm_co (S : mm_St) : Nat := S.1.length + S.2.2
def mm_sz (ck : Nat → List Nat) : mm_Sh → Nat
  | [] => 0
  | .inl ci :: r => (ck ci).length + mm_sz ck r
  | .inr (_, n) :: r => n + mm_sz ck r
def mm_sl (ck : Nat → List Nat) (S : mm_St) : Nat := mm_sz ck S.1 + 6 * S.2.2
/-- the kind of a field and its type -/
def mm_kt (kd : Nat) (ty : FieldType) : Bool := match kd, ty with
  | 0, .int => true
  | 1, .double => true
  | 2, .object _ => true
  | 2, .array _ => true
  | 3, .long => true
  | 4, .boolean => true
  | _, _ => false
/-- the classes' tables -/
def mm_CK (cl : List vw_C) (ck : Nat → List Nat) (ct : Nat → Nat → FieldType) (TT : List Cond) : Prop :=
  ∀ (ci : Nat) (C : String) (T : u_T) (N : Nat), cl[ci]? = some (C, T, N) → (∀ w ∈ u_ws C T N, w ∈ TT) ∧ (ck ci).length = N ∧ (∀ k, k < N → parseFieldDescriptor (T k).2.2.1 = some (ct ci k)) ∧ (∀ a, a < N → ∀ b, b < N → a ≠ b → (T a).2.1 ≠ (T b).2.1) ∧ ∀ k kd, (ck ci)[k]? = some kd → mm_kt kd (ct ci k) = true
/-- a field's link -/
def mm_FL (cl : List vw_C) (TT : List Cond) (own : String) (ix ci k : Nat) (C : String) (T : u_T) (N : Nat) : Prop :=
  cl[ci]? = some (C, T, N) ∧ k < N ∧ Cond.fieldLink own ix (T k).1 (T k).2.1 (T k).2.2.1 ∈ TT
section HEAP
variable {p : Program} {l : Launch} {e : Env} {R : Room} {s : State} {m : MethodId} {args : Array Value} {below : List Frame} {meth : Method} {c : Code} {Q : State → Prop}
variable {D : va_G} {cl : List vw_C} {tys : List (ClassId × FieldType)} {ck : Nat → List Nat} {ct : Nat → Nat → FieldType} {ak : Nat → FieldType} {dA : Nat → ClassId} {B b Ls nL pc : Nat} {xs : Nat → Int32} {TT : List Cond} {cc : ByteArray} {own : String} {me : mm_Me} {L : mm_L} {st : List Value} {S S0 : mm_St} {z' : mm_Z}
/-- the heap holds the small machine's cells; nothing below B has changed; so many cells are new -/
def mm_Rz (D : va_G) (cl : List vw_C) (ck : Nat → List Nat) (ak : Nat → FieldType) (dA : Nat → ClassId) (B b : Nat) (H0 : Heap) (S0 : mm_St) (S : mm_St) (H : Heap) (locs : List Loc) (cells slots : Nat) : Prop :=
  va_P D cl (mm_ws ck ak dA B b S.1 S.2.1) H ∧ va_S (fun q => B ≤ q) H0 H locs ∧ mm_co S0 + cells = mm_co S ∧ mm_sl ck S0 + slots = mm_sl ck S ∧ S0.2.2 ≤ S.2.2
theorem mm_k_getf {ix ci k : Nat} {C : String} {T : u_T} {N : Nat} (X : CallFix p m c cc nL s args TT own) (hK : va_K D cl tys s) (hCK : mm_CK cl ck ct TT) (hl : mm_FL cl TT own ix ci k C T N) (hd : decode cc pc = .ok (.getfield ix, 3))
    (h : mm_getf ck pc L st S ci k = some (.inl z')) (kJ : mm_J p l e R s m args below meth c Q B b nL (mm_Rz D cl ck ak dA B b s.heap S0) z') : mm_J p l e R s m args below meth c Q B b nL (mm_Rz D cl ck ak dA B b s.heap S0) (pc, L, st, S) := by
  obtain ⟨hx, hb, hml, hown, hts⟩ := X
  obtain ⟨hc1, hkN, hlk⟩ := hl
  obtain ⟨hin, hlen, hty, hnm, hkt⟩ := hCK ci C T N hc1
  unfold mm_getf at h
  split at h
  next a r =>
    split at h
    next cj ha =>
      obtain ⟨hq, h⟩ := mm_cond_inv h
      have hq := Nat.eq_of_beq_eq_true hq
      subst hq
      split at h
      next kd hkd =>
        cases h
        intro ls H locs cells slots hL hR
        have hP := hR.1
        exact va_get hx hb hts hin hown hK hP a (mm_ws_at ha) hc1 k hkN (hts _ hlk) (fun _ h9 => h9) (mm_fs_at hkd) hd (kJ ls H locs cells slots hL hR)
      next => cases h
    next => cases h
  next => cases h
/-- a write of a field: the new cells -/
theorem mm_put_at {ix ci k a kd : Nat} {C : String} {T : u_T} {N : Nat} {v : Value} {r : List Value} {S' : mm_St} (X : CallFix p m c cc nL s args TT own) (hK : va_K D cl tys s) (hCK : mm_CK cl ck ct TT) (hl : mm_FL cl TT own ix ci k C T N) (hfin : (T k).2.2.2 = false ∨ (meth.name = "<init>" ∧ (T k).1 = own)) (hd : decode cc pc = .ok (.putfield ix, 3))
    (ha : S.1[a]? = some (.inl ci)) (hkd : (ck ci)[k]? = some kd) (hn : narrow (ct ci k) (mm_v B b v) = mm_v B b v) (hfit : fits (ct ci k) (mm_v B b v) = true) (hS1 : S'.1 = S.1) (hS2 : S'.2.2 = S.2.2)
    (hv : mm_rd S'.2.1 kd a k = v) (hj : ∀ j kj, j ≠ k → mm_rd S'.2.1 kj a j = mm_rd S.2.1 kj a j) (hag : ∀ c, c ≠ a → mm_ag S.2.1 S'.2.1 c)
    (kJ : mm_J p l e R s m args below meth c Q B b nL (mm_Rz D cl ck ak dA B b s.heap S0) (pc + 3, L, r, S')) : mm_J p l e R s m args below meth c Q B b nL (mm_Rz D cl ck ak dA B b s.heap S0) (pc, L, v :: .ref a :: r, S) := by
  obtain ⟨hx, hb, hml, hown, hts⟩ := X
  obtain ⟨hc1, hkN, hlk⟩ := hl
  obtain ⟨hin, hlen, hty, hnm, hkt⟩ := hCK ci C T N hc1
  intro ls H locs cells slots hL hR
  obtain ⟨hP, hS, hco, hsl, hnx⟩ := hR
  have hws := mm_ws_f (ak := ak) (dA := dA) (B := B) (b := b) ha hkd hv hj hag
  have hkl : k < (mm_fs S.2.1 B b a (ck ci)).length := by rw [mm_fs_len, hlen]; exact hkN
  have hD : va_D (fun q => B ≤ q) (mm_ws ck ak dA B b S.1 S.2.1) := mm_ws_D (fun q h => h) _ _
  have fin : ∀ (H1 : Heap) (locs1 : List Loc), va_P D cl ((mm_ws ck ak dA B b S.1 S.2.1).set a (B + a, .inr (ci, (mm_fs S.2.1 B b a (ck ci)).set k (mm_v B b v)))) H1 → va_S (fun q => B ≤ q) s.heap H1 locs1 → W p l e R s m args below meth c H1 locs1 cells slots Q (F0 m (pc + 3) ls (r.map (mm_v B b))) := by
    intro H1 locs1 hP1 hS1'
    refine kJ ls H1 locs1 cells slots hL ⟨?_, hS1', ?_, ?_, ?_⟩
    · show va_P D cl (mm_ws ck ak dA B b S'.1 S'.2.1) H1
      rw [hS1, hws]; exact hP1
    · show mm_co S0 + cells = S'.1.length + S'.2.2
      rw [hS1, hS2]; exact hco
    · show mm_sl ck S0 + slots = mm_sz ck S'.1 + 6 * S'.2.2
      rw [hS1, hS2]; exact hsl
    · show S0.2.2 ≤ S'.2.2
      rw [hS2]; exact hnx
  cases hf : (T k).2.2.2 with
  | false => exact va_put hx hb hts hin (ct ci) hty hnm hown hK hP hD hS a (mm_ws_at ha) hc1 k hkN (hts _ hlk) (fun _ h9 => h9) hf (hty k hkN) hn hfit hkl hd (fun H1 locs1 h1 _ h3 => fin H1 locs1 h1 h3)
  | true =>
    rcases hfin with hfin | ⟨hi1, hi2⟩
    · rw [hf] at hfin; cases hfin
    · exact va_putF hx hb hts hin (ct ci) hty hnm hown hK hP hD hS a (mm_ws_at ha) hc1 k hkN (hts _ hlk) (fun _ h9 => h9) hf hi1 hi2 (hty k hkN) hn hfit hkl hd (fun H1 locs1 h1 _ h3 => fin H1 locs1 h1 h3)
theorem mm_kt0 {ty : FieldType} (h : mm_kt 0 ty = true) : ty = .int := by cases ty <;> first | rfl | cases h
theorem mm_kt1 {ty : FieldType} (h : mm_kt 1 ty = true) : ty = .double := by cases ty <;> first | rfl | cases h
theorem mm_kt2 {ty : FieldType} (h : mm_kt 2 ty = true) : (∃ n, ty = .object n) ∨ ∃ t, ty = .array t := by cases ty <;> first | exact Or.inl ⟨_, rfl⟩ | exact Or.inr ⟨_, rfl⟩ | cases h
theorem mm_kt3 {ty : FieldType} (h : mm_kt 3 ty = true) : ty = .long := by cases ty <;> first | rfl | cases h
theorem mm_kt4 {ty : FieldType} (h : mm_kt 4 ty = true) : ty = .boolean := by cases ty <;> first | rfl | cases h
theorem mm_rd_uI {M : mm_M} {a k j : Nat} {x : Int32} (h : j ≠ k) (kj : Nat) : mm_rd (mm_u M.1 a k x, M.2) kj a j = mm_rd M kj a j := by
  unfold mm_rd
  split <;> simp [mm_u_k h]
theorem mm_rd_uD {M : mm_M} {a k j : Nat} {x : UInt64} (h : j ≠ k) (kj : Nat) : mm_rd (M.1, mm_u M.2.1 a k x, M.2.2) kj a j = mm_rd M kj a j := by
  unfold mm_rd
  split <;> simp [mm_u_k h]
theorem mm_rd_uR {M : mm_M} {a k j : Nat} {x : Option Nat} (h : j ≠ k) (kj : Nat) : mm_rd (M.1, M.2.1, mm_u M.2.2.1 a k x, M.2.2.2) kj a j = mm_rd M kj a j := by
  unfold mm_rd
  split <;> simp [mm_u_k h]
theorem mm_rd_uJ {M : mm_M} {a k j : Nat} {x : Int64} (h : j ≠ k) (kj : Nat) : mm_rd (M.1, M.2.1, M.2.2.1, mm_u M.2.2.2 a k x) kj a j = mm_rd M kj a j := by
  unfold mm_rd
  split <;> simp [mm_u_k h]
theorem mm_k_putf {ix ci k : Nat} {C : String} {T : u_T} {N : Nat} (X : CallFix p m c cc nL s args TT own) (hK : va_K D cl tys s) (hCK : mm_CK cl ck ct TT) (hl : mm_FL cl TT own ix ci k C T N) (hfin : (T k).2.2.2 = false ∨ (meth.name = "<init>" ∧ (T k).1 = own)) (hd : decode cc pc = .ok (.putfield ix, 3))
    (h : mm_putf ck pc L st S ci k = some (.inl z')) (kJ : mm_J p l e R s m args below meth c Q B b nL (mm_Rz D cl ck ak dA B b s.heap S0) z') : mm_J p l e R s m args below meth c Q B b nL (mm_Rz D cl ck ak dA B b s.heap S0) (pc, L, st, S) := by
  have hkt := (hCK ci C T N hl.1).2.2.2.2
  unfold mm_putf at h
  split at h
  next v a r =>
    split at h
    next cj ha =>
      obtain ⟨hq, h⟩ := mm_cond_inv h
      have hq := Nat.eq_of_beq_eq_true hq
      subst hq
      split at h
      next kd hkd =>
        have hk9 := hkt k _ hkd
        match kd, hkd, hk9, h with
        | 0, hkd, hk9, h =>
          have hty := mm_kt0 hk9
          cases v with
          | int x =>
            cases h
            exact mm_put_at (kd := 0) (v := .int x) (S' := mm_sI S a k x) X hK hCK hl hfin hd ha hkd (by rw [hty]; rfl) (by rw [hty]; rfl) rfl rfl (by simp [mm_rd, mm_sI, mm_u_s]) (fun j kj hj => mm_rd_uI hj kj) (fun c hc => mm_sI_ag hc) kJ
          | _ => cases h
        | 1, hkd, hk9, h =>
          have hty := mm_kt1 hk9
          cases v with
          | double x =>
            cases h
            exact mm_put_at (kd := 1) (v := .double x) (S' := mm_sD S a k x) X hK hCK hl hfin hd ha hkd (by rw [hty]; rfl) (by rw [hty]; rfl) rfl rfl (by simp [mm_rd, mm_sD, mm_u_s]) (fun j kj hj => mm_rd_uD hj kj) (fun c hc => mm_sD_ag hc) kJ
          | _ => cases h
        | 2, hkd, hk9, h =>
          cases v with
          | ref x =>
            cases h
            rcases mm_kt2 hk9 with ⟨n, hty⟩ | ⟨t, hty⟩
            · exact mm_put_at (kd := 2) (v := .ref x) (S' := mm_sR S a k (some x)) X hK hCK hl hfin hd ha hkd (by rw [hty]; rfl) (by rw [hty]; rfl) rfl rfl (by simp [mm_rd, mm_sR, mm_u_s, va_rf]) (fun j kj hj => mm_rd_uR hj kj) (fun c hc => mm_sR_ag hc) kJ
            · exact mm_put_at (kd := 2) (v := .ref x) (S' := mm_sR S a k (some x)) X hK hCK hl hfin hd ha hkd (by rw [hty]; rfl) (by rw [hty]; rfl) rfl rfl (by simp [mm_rd, mm_sR, mm_u_s, va_rf]) (fun j kj hj => mm_rd_uR hj kj) (fun c hc => mm_sR_ag hc) kJ
          | null =>
            cases h
            rcases mm_kt2 hk9 with ⟨n, hty⟩ | ⟨t, hty⟩
            · exact mm_put_at (kd := 2) (v := .null) (S' := mm_sR S a k none) X hK hCK hl hfin hd ha hkd (by rw [hty]; rfl) (by rw [hty]; rfl) rfl rfl (by simp [mm_rd, mm_sR, mm_u_s, va_rf]) (fun j kj hj => mm_rd_uR hj kj) (fun c hc => mm_sR_ag hc) kJ
            · exact mm_put_at (kd := 2) (v := .null) (S' := mm_sR S a k none) X hK hCK hl hfin hd ha hkd (by rw [hty]; rfl) (by rw [hty]; rfl) rfl rfl (by simp [mm_rd, mm_sR, mm_u_s, va_rf]) (fun j kj hj => mm_rd_uR hj kj) (fun c hc => mm_sR_ag hc) kJ
          | _ => cases h
        | 3, hkd, hk9, h =>
          have hty := mm_kt3 hk9
          cases v with
          | long x =>
            cases h
            exact mm_put_at (kd := 3) (v := .long x) (S' := mm_sJ S a k x) X hK hCK hl hfin hd ha hkd (by rw [hty]; rfl) (by rw [hty]; rfl) rfl rfl (by simp [mm_rd, mm_sJ, mm_u_s]) (fun j kj hj => mm_rd_uJ hj kj) (fun c hc => mm_sJ_ag hc) kJ
          | _ => cases h
        | 4, hkd, hk9, h =>
          have hty := mm_kt4 hk9
          cases v with
          | int x =>
            have h : (if x = 0 ∨ x = 1 then mm_go (pc + 3) L r (mm_sI S a k x) else none) = some (.inl z') := h
            by_cases h01 : x = 0 ∨ x = 1
            · rw [if_pos h01] at h
              cases h
              exact mm_put_at (kd := 4) (v := .int x) (S' := mm_sI S a k x) X hK hCK hl hfin hd ha hkd (by rw [hty]; rcases h01 with h | h <;> (subst h; rfl)) (by rw [hty]; rcases h01 with h | h <;> (subst h; rfl)) rfl rfl (by simp [mm_rd, mm_sI, mm_u_s]) (fun j kj hj => mm_rd_uI hj kj) (fun c hc => mm_sI_ag hc) kJ
            · rw [if_neg h01] at h
              cases h
          | _ => cases h
        | n + 5, hkd, hk9, h => cases h
      next => cases h
    next => cases h
  next => cases h
end HEAP
