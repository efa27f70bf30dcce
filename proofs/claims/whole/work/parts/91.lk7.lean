/-! COMPILE: both sides -/
/-- the texts of both -/
def Tin (K : pd_I) (l : Nat) : Prop := K 1 1 = Int32.ofNat l ∧ K 43 8 = Int32.ofNat l ∧ l ≤ 48 ∧ ∀ k, k < l → K 2 k = K 44 k ∧ pd_chr (K 2 k)
/-- a memory whose reference part is as before -/
def rfE (K K' : pd_I) : Prop := ∀ b, 43 ≤ b → K' b = K b
def clE (K K' : pd_I) : Prop := ∀ b, b < 43 → K' b = K b
section LK7
variable {K K' : pd_I} {l c m : Nat}
theorem cO_2 (hc : pd_cO c) : 2 ≠ c := by rcases hc with rfl | rfl | rfl | rfl | rfl <;> decide
theorem tx_of (hc : pd_cO c) (h : Tin K l) : Tx (mm_u K c 4 0) l (K 44) := by
  obtain ⟨_, _, h3, h4⟩ := h
  refine ⟨fun k hk => ?_, fun k hk => ?_, h3⟩
  · rw [mm_u_a (cO_2 hc)]; exact (h4 k hk).1.symm
  · rw [mm_u_a (cO_2 hc)]; exact (h4 k hk).2
theorem rfE.qz (h : rfE K K') : q0 K' = q0 K := by
  unfold q0
  rw [h 43 (by omega), h 49 (by omega), h 50 (by omega), h 51 (by omega), h 45 (by omega), h 46 (by omega), h 47 (by omega)]
theorem eP_rf' (hc : pd_cO c) {P : pd_P} : rfE K (pd_eP K c P) := by
  intro b hb
  funext k
  have h1 : b ≠ 1 := by omega
  have h2 : b ≠ c ∧ b ≠ c + 1 ∧ b ≠ c + 2 := by rcases hc with rfl | rfl | rfl | rfl | rfl <;> omega
  unfold pd_eP
  rw [if_neg h1, if_neg h2.1, if_neg h2.2.1, if_neg h2.2.2]
theorem rfE.u (h : rfE K K') {a k : Nat} {v : Int32} (ha : a < 43) : rfE K (mm_u K' a k v) := by
  intro b hb
  rw [mm_u_ag (by omega)]
  exact h b hb
theorem rfE.tr {K1 K2 K3 : pd_I} (h1 : rfE K1 K2) (h2 : rfE K2 K3) : rfE K1 K3 := fun b hb => (h2 b hb).trans (h1 b hb)
/-- what the class's reading leaves of the reference's part -/
theorem rdI_rf (hc : pd_cO c) : rfE K (rdI K c m) := by
  unfold rdI
  have hc43 : c < 43 := by rcases hc with rfl | rfl | rfl | rfl | rfl <;> omega
  have h0 : rfE K (mm_u K c 4 0) := rfE.u (fun _ _ => rfl) hc43
  exact rfE.u (h0.tr (eP_rf' hc)) (by omega)
end LK7
