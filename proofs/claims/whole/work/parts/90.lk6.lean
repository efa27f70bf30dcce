/-! COMPILE: the copied code -/
section LK6
variable {I : pd_I} {k : Nat}
theorem cp1_get {i a j : Nat} : cp1 k i I a j = if (a = 45 ∨ a = 46 ∨ a = 47) ∧ j = k * 128 + i then I a (512 + i) else I a j := by
  unfold cp1 mm_u
  by_cases h7 : a = 47
  · subst h7
    by_cases hj : j = k * 128 + i <;> simp [hj]
  · by_cases h6 : a = 46
    · subst h6
      by_cases hj : j = k * 128 + i <;> simp [hj]
    · by_cases h5 : a = 45
      · subst h5
        by_cases hj : j = k * 128 + i <;> simp [hj]
      · simp [h5, h6, h7]
theorem cpL_get (hk : k < 4) : ∀ (f i : Nat) (I : pd_I), i + f ≤ 128 → ∀ a j, cpL k f i I a j = if (a = 45 ∨ a = 46 ∨ a = 47) ∧ k * 128 + i ≤ j ∧ j < k * 128 + i + f then I a (512 + (j - k * 128)) else I a j := by
  intro f
  induction f with
  | zero =>
    intro i I _ a j
    rw [if_neg (by omega)]
    rfl
  | succ f ih =>
    intro i I hi a j
    show cpL k f (i + 1) (cp1 k i I) a j = _
    rw [ih (i + 1) (cp1 k i I) (by omega), cp1_get, cp1_get]
    by_cases ha : a = 45 ∨ a = 46 ∨ a = 47
    · by_cases h1 : j = k * 128 + i
      · rw [if_neg (by omega), if_pos ⟨ha, h1⟩, if_pos ⟨ha, by omega, by omega⟩, show j - k * 128 = i by omega]
      · by_cases h2 : k * 128 + i ≤ j ∧ j < k * 128 + i + (f + 1)
        · rw [if_pos ⟨ha, by omega, by omega⟩, if_neg (by omega), if_pos ⟨ha, h2⟩]
        · rw [if_neg (by omega), if_neg (by omega), if_neg (by omega)]
    · rw [if_neg (fun h => ha h.1), if_neg (fun h => ha h.1), if_neg (fun h => ha h.1)]
theorem Cok.congr {c a x c' a' x' oC vC oC' vC' : Nat → Int32} {N n : Nat} (h : Cok c a x oC vC N n) (hc : ∀ l, l < n → c' l = c l ∧ a' l = a l ∧ x' l = x l) (hp : ∀ z, z < N → oC' z = oC z ∧ vC' z = vC z) : Cok c' a' x' oC' vC' N n := by
  have hF : ∀ j, j ≤ n → ft c' a' j = ft c a j := ft_congr n (fun j hj => ⟨(hc j hj).1, Or.inl (hc j hj).2.1⟩)
  have h1 := h.n1
  refine ⟨h.g.congr (Nat.le_refl _) (fun j hj => (hc j hj).1) (fun j hj => Or.inl (hc j hj).2.1) (fun j _ hj => (hc j hj).2) (fun z _ hz => hp z (by rw [h.eN]; exact hz)) (Nat.le_refl _), by rw [hF n (Nat.le_refl _)]; exact h.eN, h.N9, h.n1, h.n9, ?_, ?_, ?_⟩
  · rw [(hc 0 (by omega)).1]; exact h.f
  · rw [(hc (n - 1) (by omega)).1]; exact h.l
  · exact h.g2.congr (Nat.le_refl _) (fun j hj => (hc j (by omega)).1) (fun j hj => Or.inl (hc j (by omega)).2.1) (fun j _ hj => (hc j (by omega)).2) (fun z _ hz => hp z (by rw [h.eN]; exact Nat.lt_of_lt_of_le hz (ft_le (by omega)))) (Nat.le_refl _)
end LK6
