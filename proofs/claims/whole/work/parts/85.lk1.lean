/-! BOTH RUNS: kinds and stacks -/
/-- a value of a kind, in the class and in the reference -/
def kd (t : Nat) (u v : UInt64) : Prop := (t = 0 ∧ ∃ w, u = FP.i2d w ∧ v = FP.i2d w) ∨ (t = 1 ∧ u = v ∧ FP.Core.DFin u) ∨ (t = 2 ∧ ∃ k, k < 4 ∧ u = FP.i2d (Int32.ofNat (7 + k)) ∧ v = FP.i2d (Int32.ofNat k))
def SK : List Nat → List UInt64 → List UInt64 → Prop
  | [], us, vs => us = [] ∧ vs = []
  | t :: ts, us, vs => ∃ u us' v vs', us = u :: us' ∧ vs = v :: vs' ∧ kd t u v ∧ SK ts us' vs'
/-- the variables of both -/
def VR (Dc Dr : pd_D) : Prop := ∀ j, j < 11 → Dc 21 j = Dr 53 j ∧ FP.Core.DFin (Dr 53 j) ∧ (isR (Int32.ofNat j) = false → ∃ w, Dr 53 j = FP.i2d w)
section LK1
variable {u v : UInt64} {t : Nat}
theorem kd.fin (h : kd t u v) : FP.Core.DFin u ∧ FP.Core.DFin v := by
  rcases h with ⟨_, w, rfl, rfl⟩ | ⟨_, rfl, h⟩ | ⟨_, k, _, rfl, rfl⟩
  · exact ⟨fin_i w, fin_i w⟩
  · exact ⟨h, h⟩
  · exact ⟨fin_i _, fin_i _⟩
theorem kd.le (h : kd t u v) (ht : t ≤ 1) : u = v := by
  rcases h with ⟨_, w, rfl, rfl⟩ | ⟨_, h, _⟩ | ⟨h, _⟩
  · rfl
  · exact h
  · omega
theorem kd.z (h : kd 0 u v) : ∃ w, u = FP.i2d w ∧ v = FP.i2d w := by
  rcases h with ⟨_, h⟩ | ⟨h, _⟩ | ⟨h, _⟩
  · exact h
  · omega
  · omega
/-- an outcome of two is finite, and whole where its kind is -/
theorem nmv_kd {m a o : Int32} {s t : Nat} {x y z : UInt64} (hb : bo m a s t o) (hs : s ≤ 1) (ht : t ≤ 1) (hx : FP.Core.DFin x) (hy : FP.Core.DFin y) (h : nmv m (ab a) x y = some z) : kd (if m = 47 then 1 else if m = 42 ∨ m = 43 ∨ m = 45 then (if a = 1 then 1 else 0) else 0) z z := by
  have re : ∀ op, op = 42 ∨ op = 43 ∨ op = 45 ∨ op = 47 → (op = 47 → cmL y FP.dconst0 ≠ 0) → bdd (rea op x y) → FP.Core.DFin (rea op x y) := fun op hop hz hbd => bdd_fin (rea_n hx hy hz hop) hbd
  rcases hb with ⟨rfl, h'⟩ | ⟨rfl, h'⟩ | ⟨rfl, h'⟩ | ⟨rfl, rfl, rfl⟩ | ⟨rfl, rfl, rfl, rfl⟩ | ⟨rfl, rfl⟩ | ⟨rfl, rfl⟩
  · rcases h' with ⟨_, _, rfl, rfl⟩ | ⟨rfl, rfl⟩
    · have e : nmv 42 (ab 0) x y = some (FP.i2d (FP.d2i x * FP.d2i y)) := rfl
      rw [e] at h; cases h
      exact Or.inl ⟨by decide, _, rfl, rfl⟩
    · have e : nmv 42 (ab 1) x y = if bdd (rea 42 x y) then some (rea 42 x y) else none := rfl
      rw [e] at h
      split at h
      · next hbd => cases h; exact Or.inr (Or.inl ⟨by decide, rfl, re 42 (by simp) (fun h => absurd h (by decide)) hbd⟩)
      · cases h
  · rcases h' with ⟨_, _, rfl, rfl⟩ | ⟨rfl, rfl⟩
    · have e : nmv 43 (ab 0) x y = some (FP.i2d (FP.d2i x + FP.d2i y)) := rfl
      rw [e] at h; cases h
      exact Or.inl ⟨by decide, _, rfl, rfl⟩
    · have e : nmv 43 (ab 1) x y = if bdd (rea 43 x y) then some (rea 43 x y) else none := rfl
      rw [e] at h
      split at h
      · next hbd => cases h; exact Or.inr (Or.inl ⟨by decide, rfl, re 43 (by simp) (fun h => absurd h (by decide)) hbd⟩)
      · cases h
  · rcases h' with ⟨_, _, rfl, rfl⟩ | ⟨rfl, rfl⟩
    · have e : nmv 45 (ab 0) x y = some (FP.i2d (FP.d2i x - FP.d2i y)) := rfl
      rw [e] at h; cases h
      exact Or.inl ⟨by decide, _, rfl, rfl⟩
    · have e : nmv 45 (ab 1) x y = if bdd (rea 45 x y) then some (rea 45 x y) else none := rfl
      rw [e] at h
      split at h
      · next hbd => cases h; exact Or.inr (Or.inl ⟨by decide, rfl, re 45 (by simp) (fun h => absurd h (by decide)) hbd⟩)
      · cases h
  · unfold nmv at h
    rw [if_neg (by decide), if_neg (by decide)] at h
    by_cases k : cmL y FP.dconst0 = 0
    · rw [if_pos ⟨Or.inl rfl, k⟩] at h; cases h
    · rw [if_neg (fun h => k h.2), if_neg (by decide), if_neg (by decide)] at h
      split at h
      · next hbd => cases h; exact Or.inr (Or.inl ⟨by decide, rfl, re 47 (by simp) (fun _ => k) hbd⟩)
      · cases h
  · unfold nmv at h
    rw [if_neg (by decide), if_neg (by decide)] at h
    by_cases k : cmL y FP.dconst0 = 0
    · rw [if_pos ⟨Or.inr rfl, k⟩] at h; cases h
    · rw [if_neg (fun h => k h.2), if_pos rfl] at h
      cases h
      rw [if_neg (by decide), if_neg (by decide)]
      exact Or.inl ⟨rfl, _, rfl, rfl⟩
  · unfold nmv at h
    rw [if_pos rfl] at h
    cases h
    rw [if_neg (show ¬ ((60 : Int32) = 47) by decide), if_neg (show ¬ ((60 : Int32) = 42 ∨ (60 : Int32) = 43 ∨ (60 : Int32) = 45) by decide)]
    by_cases hh : 0 ≤ cmG x y
    · rw [if_pos hh]; exact Or.inl ⟨rfl, 0, c0_i, c0_i⟩
    · rw [if_neg hh]; exact Or.inl ⟨rfl, 1, c1_i, c1_i⟩
  · unfold nmv at h
    rw [if_neg (by decide), if_pos rfl] at h
    cases h
    rw [if_neg (show ¬ ((61 : Int32) = 47) by decide), if_neg (show ¬ ((61 : Int32) = 42 ∨ (61 : Int32) = 43 ∨ (61 : Int32) = 45) by decide)]
    by_cases hh : cmL x y = 0
    · rw [if_pos hh]; exact Or.inl ⟨rfl, 1, c1_i, c1_i⟩
    · rw [if_neg hh]; exact Or.inl ⟨rfl, 0, c0_i, c0_i⟩
theorem SK.len : ∀ {ts : List Nat} {us vs : List UInt64}, SK ts us vs → us.length = ts.length ∧ vs.length = ts.length := by
  intro ts
  induction ts with
  | nil => intro us vs h; obtain ⟨rfl, rfl⟩ := h; exact ⟨rfl, rfl⟩
  | cons t ts ih =>
    intro us vs h
    obtain ⟨u, us', v, vs', rfl, rfl, _, h2⟩ := h
    have := ih h2
    exact ⟨by rw [List.length_cons, List.length_cons, this.1], by rw [List.length_cons, List.length_cons, this.2]⟩
end LK1
