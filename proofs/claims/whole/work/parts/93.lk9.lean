/-! TAPE: both tapes -/
section LK9
variable {K : pd_I} {e : Int64}
theorem and15 (x : Int32) : ∃ t, t < 16 ∧ x &&& 15 = Int32.ofNat t := by
  refine ⟨x.toBitVec.toNat % 16, Nat.mod_lt _ (by omega), ?_⟩
  apply Int32.toBitVec.inj
  apply BitVec.eq_of_toNat_eq
  have h1 : (x &&& 15).toBitVec = x.toBitVec &&& 15#32 := by rw [Int32.toBitVec_and]; rfl
  have h2 : (Int32.ofNat (x.toBitVec.toNat % 16)).toBitVec = BitVec.ofNat 32 (x.toBitVec.toNat % 16) := rfl
  rw [h1, h2, BitVec.toNat_and, BitVec.toNat_ofNat, BitVec.toNat_ofNat]
  have h3 : (15 : Nat) % 2 ^ 32 = 2 ^ 4 - 1 := by decide
  rw [h3, Nat.and_two_pow_sub_one_eq_mod]
  have h4 : x.toBitVec.toNat % 16 < 16 := Nat.mod_lt _ (by omega)
  rw [Nat.mod_eq_of_lt (a := x.toBitVec.toNat % 16) (by omega)]
theorem hby_n (i : Int32) : ∃ t, t < 16 ∧ hby e i = Int32.ofNat t := and15 _
theorem tpL_get {b : Nat} : ∀ (f i : Nat) (K : pd_I) (a j : Nat), tpL e b f i K a j = if a = b ∧ i ≤ j ∧ j < i + f then hby e (Int32.ofNat j) else K a j := by
  intro f
  induction f with
  | zero => intro i K a j; rw [if_neg (by omega)]; rfl
  | succ f ih =>
    intro i K a j
    show tpL e b f (i + 1) (mm_u K b i (hby e (Int32.ofNat i))) a j = _
    rw [ih]
    unfold mm_u
    by_cases ha : a = b
    · by_cases h1 : j = i
      · rw [if_neg (by omega), if_pos ha, if_pos h1, if_pos ⟨ha, by omega, by omega⟩, h1]
      · by_cases h2 : i ≤ j ∧ j < i + (f + 1)
        · rw [if_pos ⟨ha, by omega, by omega⟩, if_pos ⟨ha, h2⟩]
        · rw [if_neg (by omega), if_pos ha, if_neg h1, if_neg (by omega)]
    · rw [if_neg (fun h => ha h.1), if_neg ha, if_neg (fun h => ha h.1)]
/-- the tapes of both: l numbers -/
def Tap (K : pd_I) (l : Nat) : Prop := 0 < l ∧ l ≤ 16 ∧ K 23 1 = Int32.ofNat l ∧ K 43 18 = Int32.ofNat l ∧ ∀ j, j < 16 → K 24 j = K 52 j ∧ ∃ t, t < 16 ∧ K 24 j = Int32.ofNat t
end LK9
