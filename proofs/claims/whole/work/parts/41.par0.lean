/-! THE CLASS's READER: memory and first rows -/
/-- after the constructors: what each cell is -/
def pd_SH : mm_Sh := [.inl 0, .inl 2, .inr (1, 48), .inl 1, .inr (0, 49), .inr (0, 49), .inl 3, .inr (11, 4), .inl 1, .inr (0, 49), .inr (0, 49), .inl 1, .inr (0, 49), .inr (0, 49), .inl 1, .inr (0, 49), .inr (0, 49), .inl 1, .inr (0, 49), .inr (0, 49), .inl 4, .inr (2, 11), .inr (2, 49), .inl 5, .inr (0, 16), .inr (0, 2), .inr (2, 12), .inr (16, 5), .inl 6, .inr (0, 6), .inr (0, 6), .inl 6, .inr (0, 6), .inr (0, 6), .inl 6, .inr (0, 6), .inr (0, 6), .inl 6, .inr (0, 6), .inr (0, 6), .inl 6, .inr (0, 6), .inr (0, 6), .inl 7, .inr (0, 48), .inr (0, 640), .inr (0, 640), .inr (0, 640), .inr (4, 4), .inr (0, 64), .inr (0, 64), .inr (4, 64), .inr (0, 16), .inr (2, 11), .inr (2, 12), .inr (2, 64), .inr (0, 2), .inr (0, 5), .inr (0, 5), .inr (0, 5), .inr (0, 5), .inr (0, 5), .inr (0, 5), .inr (0, 40), .inr (0, 5), .inr (0, 5), .inr (3, 1), .inr (2, 1)]
abbrev pd_I : Type := Nat → Nat → Int32
abbrev pd_D : Type := Nat → Nat → UInt64
abbrev pd_A : Type := Nat → Nat → Option Nat
abbrev pd_J : Type := Nat → Nat → Int64
def pd_st (I : pd_I) (D : pd_D) (A : pd_A) (J : pd_J) (n : Nat) : mm_St := (pd_SH, (I, D, A, J), n)
section S0
variable {I : pd_I} {D : pd_D} {A : pd_A} {J : pd_J} {n : Nat}
theorem pd_st1 : (pd_st I D A J n).1 = pd_SH := rfl
theorem pd_stI : (pd_st I D A J n).2.1.1 = I := rfl
theorem pd_stD : (pd_st I D A J n).2.1.2.1 = D := rfl
theorem pd_stA : (pd_st I D A J n).2.1.2.2.1 = A := rfl
theorem pd_stJ : (pd_st I D A J n).2.1.2.2.2 = J := rfl
theorem pd_sI {a k : Nat} {x : Int32} : mm_sI (pd_st I D A J n) a k x = pd_st (mm_u I a k x) D A J n := rfl
theorem pd_sD {a k : Nat} {x : UInt64} : mm_sD (pd_st I D A J n) a k x = pd_st I (mm_u D a k x) A J n := rfl
theorem pd_sR {a k : Nat} {x : Option Nat} : mm_sR (pd_st I D A J n) a k x = pd_st I D (mm_u A a k x) J n := rfl
theorem pd_sJ {a k : Nat} {x : Int64} : mm_sJ (pd_st I D A J n) a k x = pd_st I D A (mm_u J a k x) n := rfl
/-- a field is read -/
theorem pd_gi {pc a c k : Nat} {L : mm_L} {r : List Value} (h1 : pd_SH[a]? = some (.inl c)) (h2 : (pd_ck c)[k]? = some 0 ∨ (pd_ck c)[k]? = some 4) : mm_getf pd_ck pc L (.ref a :: r) (pd_st I D A J n) c k = mm_go (pc + 3) L (.int (I a k) :: r) (pd_st I D A J n) := by
  unfold mm_getf
  simp only [pd_st1, h1]
  rw [show Nat.beq c c = true from Nat.beq_refl c]
  rcases h2 with h2 | h2 <;> rw [h2] <;> rfl
theorem pd_ga {pc a c k q : Nat} {L : mm_L} {r : List Value} (h1 : pd_SH[a]? = some (.inl c)) (h2 : (pd_ck c)[k]? = some 2) (h3 : A a k = some q) : mm_getf pd_ck pc L (.ref a :: r) (pd_st I D A J n) c k = mm_go (pc + 3) L (.ref q :: r) (pd_st I D A J n) := by
  unfold mm_getf
  simp only [pd_st1, h1]
  rw [show Nat.beq c c = true from Nat.beq_refl c]
  rw [h2]
  show mm_go (pc + 3) L (va_rf (A a k) :: r) (pd_st I D A J n) = _
  rw [h3]
  rfl
theorem pd_gr {pc a c k : Nat} {L : mm_L} {r : List Value} (h1 : pd_SH[a]? = some (.inl c)) (h2 : (pd_ck c)[k]? = some 2) : mm_getf pd_ck pc L (.ref a :: r) (pd_st I D A J n) c k = mm_go (pc + 3) L (va_rf (A a k) :: r) (pd_st I D A J n) := by
  unfold mm_getf
  simp only [pd_st1, h1]
  rw [show Nat.beq c c = true from Nat.beq_refl c]
  rw [h2]
  rfl
theorem pd_pi {pc a c k : Nat} {L : mm_L} {r : List Value} {x : Int32} (h1 : pd_SH[a]? = some (.inl c)) (h2 : (pd_ck c)[k]? = some 0) : mm_putf pd_ck pc L (.int x :: .ref a :: r) (pd_st I D A J n) c k = mm_go (pc + 3) L r (pd_st (mm_u I a k x) D A J n) := by
  unfold mm_putf
  simp only [pd_st1, h1]
  rw [show Nat.beq c c = true from Nat.beq_refl c, h2]
  rfl
theorem pd_pz {pc a c k : Nat} {L : mm_L} {r : List Value} {x : Int32} (h1 : pd_SH[a]? = some (.inl c)) (h2 : (pd_ck c)[k]? = some 4) (h3 : x = 0 ∨ x = 1) : mm_putf pd_ck pc L (.int x :: .ref a :: r) (pd_st I D A J n) c k = mm_go (pc + 3) L r (pd_st (mm_u I a k x) D A J n) := by
  unfold mm_putf
  simp only [pd_st1, h1]
  rw [show Nat.beq c c = true from Nat.beq_refl c, h2]
  show (if x = 0 ∨ x = 1 then _ else _) = _
  rw [if_pos h3]
  rfl
theorem pd_pa {pc a c k q : Nat} {L : mm_L} {r : List Value} (h1 : pd_SH[a]? = some (.inl c)) (h2 : (pd_ck c)[k]? = some 2) : mm_putf pd_ck pc L (.ref q :: .ref a :: r) (pd_st I D A J n) c k = mm_go (pc + 3) L r (pd_st I D (mm_u A a k (some q)) J n) := by
  unfold mm_putf
  simp only [pd_st1, h1]
  rw [show Nat.beq c c = true from Nat.beq_refl c, h2]
  rfl
/-- an element at a small place -/
theorem pd_ai {a t m k ty : Nat} {r : List Value} {f : Int32 → Nat → List Value → mm_N} (h1 : pd_SH[a]? = some (.inr (t, m))) (h2 : mm_ty (pd_ak t) = ty) (hk : k < m) (hm : m ≤ 1000) : mm_ai pd_ak (pd_st I D A J n) (.int (Int32.ofNat k) :: .ref a :: r) ty f = f (Int32.ofNat k) a r := by
  unfold mm_ai mm_ar
  simp only [pd_st1, h1, h2]
  rw [show Nat.beq ty ty = true from Nat.beq_refl ty]
  unfold mm_ix
  have e : (Int32.ofNat k).toNatClampNeg = k := by
    have h9 : (Int32.ofNat k).toInt = (k : Int) := by
      rw [Int32.toInt_ofNat_of_lt (by omega)]
    rw [Int32.toNatClampNeg, h9]
    simp
  have e2 : ¬ (Int32.ofNat k < 0) := by
    rw [Int32.lt_iff_toInt_lt, Int32.toInt_ofNat_of_lt (by omega)]
    simp
  simp only [cond_true, e]
  rw [if_neg (by intro h9; rcases h9 with h9 | h9; exact e2 h9; omega)]
theorem pd_nn {k : Nat} (h : k < 2147483648) : (Int32.ofNat k).toNatClampNeg = k := by
  have h9 : (Int32.ofNat k).toInt = (k : Int) := by
    rw [Int32.toInt_ofNat_of_lt (by omega)]
  rw [Int32.toNatClampNeg, h9]
  simp
end S0
