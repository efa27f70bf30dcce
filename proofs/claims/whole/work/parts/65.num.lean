/-! NUMBERS: what both sides reckon -/
def cmL (x y : UInt64) : Int32 := Op.cmpValue (FP.dcmp x y) .l
def cmG (x y : UInt64) : Int32 := Op.cmpValue (FP.dcmp x y) .g
/-- within the bound -/
abbrev bdd (r : UInt64) : Prop := ¬ (0 < cmL r 4741671816366391296) ∧ 0 ≤ cmG r 13965043853221167104
/-- real numbers of two -/
def rea (op : Int32) (x y : UInt64) : UInt64 := if op = 43 then FP.dadd x y else if op = 45 then FP.dsub x y else if op = 42 then FP.dmul x y else FP.ddiv x y
/-- whole numbers of two -/
def who (op : Int32) (x y : UInt64) : UInt64 := if op = 43 then FP.i2d (FP.d2i x + FP.d2i y) else if op = 45 then FP.i2d (FP.d2i x - FP.d2i y) else FP.i2d (FP.d2i x * FP.d2i y)
/-- left, mark, right: the outcome, none where it is refused -/
def nmv (op a : Int32) (x y : UInt64) : Option UInt64 :=
  if op = 60 then some (if 0 ≤ cmG x y then FP.dconst0 else FP.dconst1)
  else if op = 61 then some (if cmL x y = 0 then FP.dconst1 else FP.dconst0)
  else if (op = 47 ∨ op = 37) ∧ cmL y FP.dconst0 = 0 then none
  else if op = 37 then some (FP.i2d (FP.d2i x - FP.d2i x / FP.d2i y * FP.d2i y))
  else if a = 0 then some (who op x y)
  else if bdd (rea op x y) then some (rea op x y) else none
section NUM
variable {x y r : UInt64} {v : Int32}
theorem n64_of (h : FP.Core.dIsNaN r = false) : mm_n64 r = true := decide_eq_true (Jvm.Free.Fl.noNaN64_no.mpr h)
theorem int0 : FP.Core.DInt 0 FP.dconst0 := by
  have h := FP.Core.i2d_int 0
  have e : FP.Core.i2d 0 = FP.dconst0 := by decide +kernel
  rw [e] at h
  exact h
theorem int3 : FP.Core.DInt 3 4613937818241073152 := by
  have h := FP.Core.i2d_int 3
  have e : FP.Core.i2d 3 = 4613937818241073152 := by decide +kernel
  rw [e] at h
  exact h
theorem i32_0 : v.toInt = 0 ↔ v = 0 := by
  constructor
  · intro h; apply Int32.toInt_inj.mp; rw [h]; rfl
  · intro h; rw [h]; rfl
/-- a whole number is 0 as a double just where it is -/
theorem eq0_i : (cmL (FP.i2d v) FP.dconst0 = 0) ↔ v = 0 := by
  have h : FP.dcmp (FP.i2d v) FP.dconst0 = some (compare v.toInt 0) := FP.Core.dcmp_int (FP.Core.i2d_int v) int0
  refine Iff.trans ?_ i32_0
  unfold cmL
  rw [h]
  rcases Int.lt_trichotomy v.toInt 0 with k | k | k
  · rw [show compare v.toInt 0 = .lt from Int.compare_eq_lt.mpr k]
    constructor
    · intro h; exact absurd h (by decide)
    · intro h; omega
  · rw [k]; exact ⟨fun _ => rfl, fun _ => rfl⟩
  · rw [show compare v.toInt 0 = .gt from Int.compare_eq_gt.mpr k]
    constructor
    · intro h; exact absurd h (by decide)
    · intro h; omega
theorem lt0_i : (cmG (FP.i2d v) FP.dconst0 < 0) ↔ v < 0 := by
  have h : FP.dcmp (FP.i2d v) FP.dconst0 = some (compare v.toInt 0) := FP.Core.dcmp_int (FP.Core.i2d_int v) int0
  refine Iff.trans ?_ (Int32.lt_iff_toInt_lt (x := v) (y := 0)).symm
  show _ ↔ v.toInt < 0
  unfold cmG
  rw [h]
  rcases Int.lt_trichotomy v.toInt 0 with k | k | k
  · rw [show compare v.toInt 0 = .lt from Int.compare_eq_lt.mpr k]
    exact ⟨fun _ => k, fun _ => by decide⟩
  · rw [k]; exact ⟨fun h => absurd h (by decide), fun h => by omega⟩
  · rw [show compare v.toInt 0 = .gt from Int.compare_eq_gt.mpr k]
    exact ⟨fun h => absurd h (by decide), fun h => by omega⟩
theorem le3_i : (cmL (FP.i2d v) 4613937818241073152 ≤ 0) ↔ v < 4 := by
  have h : FP.dcmp (FP.i2d v) 4613937818241073152 = some (compare v.toInt 3) := FP.Core.dcmp_int (FP.Core.i2d_int v) int3
  refine Iff.trans ?_ (Int32.lt_iff_toInt_lt (x := v) (y := 4)).symm
  show _ ↔ v.toInt < 4
  unfold cmL
  rw [h]
  rcases Int.lt_trichotomy v.toInt 3 with k | k | k
  · rw [show compare v.toInt 3 = .lt from Int.compare_eq_lt.mpr k]
    exact ⟨fun _ => by omega, fun _ => by decide⟩
  · rw [k]; exact ⟨fun _ => by decide, fun h => by decide⟩
  · rw [show compare v.toInt 3 = .gt from Int.compare_eq_gt.mpr k]
    exact ⟨fun h => absurd h (by decide), fun h => by omega⟩
theorem d2i_i (v : Int32) : FP.d2i (FP.i2d v) = v := FP.Core.d2i_i2d v
/-- within the bound: no NaN, and finite -/
theorem bdd_fin (hn : FP.Core.dIsNaN r = false) (h : bdd r) : FP.Core.DFin r := by
  by_cases hf : FP.Core.DFin r
  · exact hf
  · exfalso
    rw [FP.Core.fin_bits] at hf
    have h1 := Jvm.Free.Fl.noNaN64_no.mpr hn
    rw [Jvm.Free.Fl.noNaN64_iff] at h1
    have h2 := r.toNat_lt
    have h3 : r.toNat = 9218868437227405312 ∨ r.toNat = 18442240474082181120 := by omega
    rcases h3 with h3 | h3
    · have e : r = 9218868437227405312 := UInt64.toNat.inj h3
      rw [e] at h
      exact absurd h (by decide +kernel)
    · have e : r = 18442240474082181120 := UInt64.toNat.inj h3
      rw [e] at h
      exact absurd h (by decide +kernel)
theorem nz_of (h : cmL y FP.dconst0 ≠ 0) : ¬ FP.Core.DZero y := by
  intro hz
  apply h
  have := FP.Core.zero_iff.mpr hz
  unfold cmL
  rw [show FP.dcmp y FP.dconst0 = some .eq from this]
  rfl
theorem rea_n {op : Int32} (hx : FP.Core.DFin x) (hy : FP.Core.DFin y) (hz : op = 47 → cmL y FP.dconst0 ≠ 0) (hop : op = 42 ∨ op = 43 ∨ op = 45 ∨ op = 47) : FP.Core.dIsNaN (rea op x y) = false := by
  rcases hop with rfl | rfl | rfl | rfl
  · exact FP.Core.dmul_out hx hy
  · exact FP.Core.dadd_out hx.notNaN hy
  · exact FP.Core.dsub_out hx.notNaN hy
  · exact FP.Core.ddiv_out hx.notNaN hy (nz_of (hz rfl))
theorem fin_i (v : Int32) : FP.Core.DFin (FP.i2d v) := FP.Core.i2d_fin v
theorem c0_i : FP.dconst0 = FP.i2d 0 := by decide +kernel
theorem c1_i : FP.dconst1 = FP.i2d 1 := by decide +kernel
end NUM
