/-! THE TABLES HOLD -/
theorem pd_ok (j : Nat) : mm_ok pd_cl pd_ak pd_TT pd_strs pd_nc pd_ex pd_yj pd_cw pd_bj pd_rj pd_mj j := by
  have h : pd_okq (pd_at j) := by
    unfold pd_at
    by_cases hj : j < pd_all.length
    · rw [List.getD_eq_getElem?_getD, List.getElem?_eq_getElem hj]
      exact pd_ks _ (List.getElem_mem hj)
    · rw [List.getD_eq_getElem?_getD, List.getElem?_eq_none (by omega)]
      exact pd_k0
  exact h
theorem pd_TTwd : ∀ w ∈ pd_TT, mm_wd w = true := fun _ h => (List.mem_filter.mp h).2
theorem pd_nm0 : ∀ q ∈ pd_cl, ∀ a, a < q.2.2 → ∀ b, b < q.2.2 → a ≠ b → (q.2.1 a).2.1 ≠ (q.2.1 b).2.1 := by decide +kernel
theorem pd_kts {ks : List Nat} {ct : Nat → FieldType} (h : ((List.range ks.length).all fun k => mm_kt (ks.getD k 0) (ct k)) = true) : ∀ k kd, ks[k]? = some kd → mm_kt kd (ct k) = true := by
  intro k kd hk
  have hl : k < ks.length := (List.getElem?_eq_some_iff.mp hk).1
  have h1 := List.all_eq_true.mp h k (List.mem_range.mpr hl)
  rw [List.getD_eq_getElem?_getD, hk] at h1
  exact h1
theorem pd_CK : mm_CK pd_cl pd_ck pd_ct pd_TT := by
  intro ci C T N h
  have hn := pd_nm0 _ (List.mem_of_getElem? h)
  match ci, h with
  | 0, h => cases h; exact ⟨pd_ws0, rfl, by decide +kernel, hn, pd_kts (by decide +kernel)⟩
  | 1, h => cases h; exact ⟨pd_ws1, rfl, by decide +kernel, hn, pd_kts (by decide +kernel)⟩
  | 2, h => cases h; exact ⟨pd_ws2, rfl, by decide +kernel, hn, pd_kts (by decide +kernel)⟩
  | 3, h => cases h; exact ⟨pd_ws3, rfl, by decide +kernel, hn, pd_kts (by decide +kernel)⟩
  | 4, h => cases h; exact ⟨pd_ws4, rfl, by decide +kernel, hn, pd_kts (by decide +kernel)⟩
  | 5, h => cases h; exact ⟨pd_ws5, rfl, by decide +kernel, hn, pd_kts (by decide +kernel)⟩
  | 6, h => cases h; exact ⟨pd_ws6, rfl, by decide +kernel, hn, pd_kts (by decide +kernel)⟩
  | 7, h => cases h; exact ⟨pd_ws7, rfl, by decide +kernel, hn, pd_kts (by decide +kernel)⟩
  | _ + 8, h => cases h
theorem pd_AO : mm_AO pd_cl pd_ak := by
  intro ci r h h5
  match ci, h, h5 with
  | 0, h, h5 => cases h5
  | 1, h, _ => cases h; rfl
  | 2, h, h5 => cases h5
  | 3, h, h5 => cases h5
  | 4, h, h5 => cases h5
  | 5, h, h5 => cases h5
  | 6, h, _ => cases h; rfl
  | 7, h, h5 => cases h5
  | _ + 8, h, _ => cases h
theorem pd_TB : mm_TB pd_cl pd_ck pd_ct pd_ak pd_TT := ⟨pd_CK, pd_AO, pd_TTwd, rfl, rfl, rfl, rfl, rfl⟩
