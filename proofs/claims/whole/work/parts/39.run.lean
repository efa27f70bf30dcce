/-! RUNNING THE SMALL MACHINE BY REWRITING -/
def pd_G (xs : Nat → Int32) (Ls d : Nat) (me : mm_Me) (z : mm_Z) (o : mm_O) : Prop := mm_R (mm_step (mm_ev xs Ls pd_ck pd_ak pd_mj d) xs Ls pd_ck pd_ak me) z o
def pd_K (xs : Nat → Int32) (Ls d : Nat) (me : mm_Me) (r : mm_N) (o : mm_O) : Prop := match r with
  | some (.inl z) => pd_G xs Ls d me z o
  | some (.inr o') => o' = o
  | none => False
def mm_e0 (S : mm_St) (st : List Value) : mm_N := match st with
  | [.int x] => mm_end (.inl (some (.int x))) S
  | _ => none
def mm_e1 (S : mm_St) (st : List Value) : mm_N := match st with
  | [.int x] => if (x.toUInt32 % 65536).toInt32 = x then mm_end (.inl (some (.int x))) S else none
  | _ => none
def mm_e4 (S : mm_St) (st : List Value) : mm_N := match st with
  | [.int x] => if x = 0 ∨ x = 1 then mm_end (.inl (some (.int x))) S else none
  | _ => none
section RUN
variable {xs : Nat → Int32} {Ls d : Nat} {me : mm_Me} {L : mm_L} {st rest : List Value} {S : mm_St} {o : mm_O} {pc : Nat}
theorem pd_Gs {i : Instr} {n : Nat} (h : me.dec[pc]? = some (some (i, n))) : pd_G xs Ls d me (pc, L, st, S) o ↔ pd_K xs Ls d me (mm_do (mm_ev xs Ls pd_ck pd_ak pd_mj d) xs Ls pd_ck pd_ak me pc L st S i) o := by
  have e : mm_step (mm_ev xs Ls pd_ck pd_ak pd_mj d) xs Ls pd_ck pd_ak me (pc, L, st, S) = mm_do (mm_ev xs Ls pd_ck pd_ak pd_mj d) xs Ls pd_ck pd_ak me pc L st S i := by
    unfold mm_step
    rw [show me.dec[(pc, L, st, S).1]? = some (some (i, n)) from h]
  generalize mm_do (mm_ev xs Ls pd_ck pd_ak pd_mj d) xs Ls pd_ck pd_ak me pc L st S i = r at e
  constructor
  · intro hG
    rcases mm_R.cs hG with ⟨z', hz, hr⟩ | hz
    · rw [e] at hz
      subst hz
      exact hr
    · rw [e] at hz
      subst hz
      exact rfl
  · intro hK
    match r, e, hK with
    | some (.inl z), e, hK => exact mm_R.go e hK
    | some (.inr o'), e, hK => cases (show o' = o from hK); exact mm_R.end e
theorem pd_Kgo {z : mm_Z} : pd_K xs Ls d me (some (.inl z)) o ↔ pd_G xs Ls d me z o := Iff.rfl
theorem pd_Kend {r : Option Value ⊕ Nat} : pd_K xs Ls d me (some (.inr (r, S))) o ↔ (r, S) = o := Iff.rfl
theorem pd_Kno : pd_K xs Ls d me none o ↔ False := Iff.rfl
theorem pd_Kite {c : Prop} [Decidable c] {A B : mm_N} : pd_K xs Ls d me (if c then A else B) o ↔ if c then pd_K xs Ls d me A o else pd_K xs Ls d me B o := by
  split <;> rfl
theorem mm_ld0 {a : Option Value} {L : mm_L} : mm_ld (a :: L) 0 = a := by cases a <;> rfl
theorem mm_lds {a : Option Value} {L : mm_L} {n : Nat} : mm_ld (a :: L) (n + 1) = mm_ld L n := rfl
theorem pd_Kinv0 {a c j : Nat} (h : S.1[a]? = some (.inl c)) (hw : mm_wt rest ≤ 8) : pd_K xs Ls d me (mm_inv (mm_ev xs Ls pd_ck pd_ak pd_mj d) me pc L (.ref a :: rest) S j 0 c) o ↔ pd_K xs Ls d me (mm_back me pc L rest (mm_ev xs Ls pd_ck pd_ak pd_mj d j [.ref a] S)) o := by
  unfold mm_inv
  simp only [mm_pop, h]
  rw [show (Nat.beq c c && Nat.ble (mm_wt rest) 8) = true by simp [Nat.ble_eq.mpr hw]]
  rfl
theorem pd_Kinv1 {a c j : Nat} {x : Value} (h : S.1[a]? = some (.inl c)) (hw : mm_wt rest ≤ 8) : pd_K xs Ls d me (mm_inv (mm_ev xs Ls pd_ck pd_ak pd_mj d) me pc L (x :: .ref a :: rest) S j 1 c) o ↔ pd_K xs Ls d me (mm_back me pc L rest (mm_ev xs Ls pd_ck pd_ak pd_mj d j [.ref a, x] S)) o := by
  unfold mm_inv
  simp only [mm_pop, h]
  rw [show (Nat.beq c c && Nat.ble (mm_wt rest) 8) = true by simp [Nat.ble_eq.mpr hw]]
  rfl
theorem pd_Kinv2 {a c j : Nat} {x y : Value} (h : S.1[a]? = some (.inl c)) (hw : mm_wt rest ≤ 8) : pd_K xs Ls d me (mm_inv (mm_ev xs Ls pd_ck pd_ak pd_mj d) me pc L (y :: x :: .ref a :: rest) S j 2 c) o ↔ pd_K xs Ls d me (mm_back me pc L rest (mm_ev xs Ls pd_ck pd_ak pd_mj d j [.ref a, x, y] S)) o := by
  unfold mm_inv
  simp only [mm_pop, h]
  rw [show (Nat.beq c c && Nat.ble (mm_wt rest) 8) = true by simp [Nat.ble_eq.mpr hw]]
  rfl
theorem pd_Kinv3 {a c j : Nat} {x y z : Value} (h : S.1[a]? = some (.inl c)) (hw : mm_wt rest ≤ 8) : pd_K xs Ls d me (mm_inv (mm_ev xs Ls pd_ck pd_ak pd_mj d) me pc L (z :: y :: x :: .ref a :: rest) S j 3 c) o ↔ pd_K xs Ls d me (mm_back me pc L rest (mm_ev xs Ls pd_ck pd_ak pd_mj d j [.ref a, x, y, z] S)) o := by
  unfold mm_inv
  simp only [mm_pop, h]
  rw [show (Nat.beq c c && Nat.ble (mm_wt rest) 8) = true by simp [Nat.ble_eq.mpr hw]]
  rfl
theorem pd_Kinv4 {a c j : Nat} {x y z w : Value} (h : S.1[a]? = some (.inl c)) (hw : mm_wt rest ≤ 8) : pd_K xs Ls d me (mm_inv (mm_ev xs Ls pd_ck pd_ak pd_mj d) me pc L (w :: z :: y :: x :: .ref a :: rest) S j 4 c) o ↔ pd_K xs Ls d me (mm_back me pc L rest (mm_ev xs Ls pd_ck pd_ak pd_mj d j [.ref a, x, y, z, w] S)) o := by
  unfold mm_inv
  simp only [mm_pop, h]
  rw [show (Nat.beq c c && Nat.ble (mm_wt rest) 8) = true by simp [Nat.ble_eq.mpr hw]]
  rfl
theorem pd_KinS1 {j : Nat} {x : Value} (hw : mm_wt rest ≤ 8) : pd_K xs Ls d me (mm_invS (mm_ev xs Ls pd_ck pd_ak pd_mj d) me pc L (x :: rest) S j 1) o ↔ pd_K xs Ls d me (mm_back me pc L rest (mm_ev xs Ls pd_ck pd_ak pd_mj d j [x] S)) o := by
  unfold mm_invS
  simp only [mm_pop]
  rw [show Nat.ble (mm_wt rest) 8 = true from Nat.ble_eq.mpr hw]
  rfl
theorem pd_KinS2 {j : Nat} {x y : Value} (hw : mm_wt rest ≤ 8) : pd_K xs Ls d me (mm_invS (mm_ev xs Ls pd_ck pd_ak pd_mj d) me pc L (y :: x :: rest) S j 2) o ↔ pd_K xs Ls d me (mm_back me pc L rest (mm_ev xs Ls pd_ck pd_ak pd_mj d j [x, y] S)) o := by
  unfold mm_invS
  simp only [mm_pop]
  rw [show Nat.ble (mm_wt rest) 8 = true from Nat.ble_eq.mpr hw]
  rfl
theorem pd_KinS3 {j : Nat} {x y z : Value} (hw : mm_wt rest ≤ 8) : pd_K xs Ls d me (mm_invS (mm_ev xs Ls pd_ck pd_ak pd_mj d) me pc L (z :: y :: x :: rest) S j 3) o ↔ pd_K xs Ls d me (mm_back me pc L rest (mm_ev xs Ls pd_ck pd_ak pd_mj d j [x, y, z] S)) o := by
  unfold mm_invS
  simp only [mm_pop]
  rw [show Nat.ble (mm_wt rest) 8 = true from Nat.ble_eq.mpr hw]
  rfl
theorem pd_bkv {v : Value} : mm_back me pc L rest (some (.inl (some v), S)) = mm_go (pc + 3) L (v :: rest) S := rfl
theorem pd_bkn : mm_back me pc L rest (some (.inl none, S)) = mm_go (pc + 3) L rest S := rfl
theorem pd_bkE {E : Nat} (h : me.hs = []) : mm_back me pc L rest (some (.inr E, S)) = mm_end (.inr E) S := by unfold mm_back; rw [h]
theorem pd_bkif {c : Prop} [Decidable c] {A B : Option mm_O} : mm_back me pc L rest (if c then A else B) = if c then mm_back me pc L rest A else mm_back me pc L rest B := by split <;> rfl
/-- a method's call, by its run -/
theorem pd_ev_of {j : Nat} {as : List Value} (hw : mm_wt as ≤ (pd_mj j).nL) (h : pd_G xs Ls d (pd_mj j) (0, mm_pad (mm_in as) (pd_mj j).nL, [], S) o) : mm_ev xs Ls pd_ck pd_ak pd_mj (d + 1) j as S = some o := (mm_ev_iff xs Ls pd_ck pd_ak pd_mj).mpr ⟨hw, h⟩
end RUN
