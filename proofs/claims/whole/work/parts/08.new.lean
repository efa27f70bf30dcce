section NEW
variable {p : Program} {l : Launch} {e : Env} {R : Room} {s : State} {m : MethodId} {args : Array Value} {below : List Frame} {meth : Method} {c : Code} {Q : State → Prop}
variable {D : va_G} {cl : List vw_C} {tys : List (ClassId × FieldType)} {ck : Nat → List Nat} {ct : Nat → Nat → FieldType} {ak : Nat → FieldType} {dA : Nat → ClassId} {B b Ls nL pc : Nat} {xs : Nat → Int32} {TT : List Cond} {cc : ByteArray} {own : String} {me : mm_Me} {L : mm_L} {st : List Value} {S S0 : mm_St} {z' : mm_Z}
theorem mm_aas_inv {f : Nat → Int32 → Nat → List Value → mm_N} {z : mm_Z ⊕ mm_O} (h : mm_aas ak S st f = some z) : ∃ x i a r ci n, st = .ref x :: .int i :: .ref a :: r ∧ S.1[x]? = some (.inl ci) ∧ S.1[a]? = some (.inr (10 + ci, n)) ∧ vp_in i n ∧ f x i a r = some z ∧ mm_ty (ak (10 + ci)) = 5 := by
  unfold mm_aas at h
  split at h
  next x i a r =>
    split at h
    next ci hci =>
      split at h
      next t n ht =>
        obtain ⟨hq, h9⟩ := mm_cond_inv h
        rw [Bool.and_eq_true] at hq
        have hq5 := Nat.eq_of_beq_eq_true hq.2
        have hq := Nat.eq_of_beq_eq_true hq.1
        subst hq
        obtain ⟨h1, h2⟩ := mm_ix_inv h9
        exact ⟨x, i, a, r, ci, n, rfl, hci, ht, h1, h2, hq5⟩
      next => cases h
    next => cases h
  next => cases h
/-- types from 10 on are arrays of objects -/
def mm_AO (cl : List vw_C) (ak : Nat → FieldType) : Prop := ∀ (ci : Nat) (r : vw_C), cl[ci]? = some r → mm_ty (ak (10 + ci)) = 5 → ak (10 + ci) = .object r.1
theorem mm_k_aast (X : CallFix p m c cc nL s args TT own) (hK : va_K D cl tys s) (hT : mm_AT tys ak dA) (hO : mm_AO cl ak) (hd : decode cc pc = .ok (.aastore, 1))
    (h : (mm_aas ak S st fun x i a r => mm_go (pc + 1) L r (mm_sR S a i.toNatClampNeg (some x))) = some (.inl z')) (kJ : mm_J p l e R s m args below meth c Q B b nL (mm_Rz D cl ck ak dA B b s.heap S0) z') : mm_J p l e R s m args below meth c Q B b nL (mm_Rz D cl ck ak dA B b s.heap S0) (pc, L, st, S) := by
  obtain ⟨hx, hb, hml, hown, hts⟩ := X
  obtain ⟨x, i, a, r, ci, n, rfl, hxc, ha, hi, h, h5⟩ := mm_aas_inv h
  cases h
  obtain ⟨t0, h0⟩ := hT (10 + ci)
  intro ls H locs cells slots hL hR
  obtain ⟨hP, hS, hco, hsl, hnx⟩ := hR
  obtain ⟨rc, hrc, -⟩ := hP _ _ (mm_ws_at (ck := ck) (ak := ak) (dA := dA) (B := B) (b := b) (M := S.2.1) hxc)
  have hty := hO ci rc hrc h5
  rw [hty] at h0
  refine va_astq hx hb hK hP (mm_ws_D (fun q h => h) _ _) hS a t0 x ci (mm_ws_ar ha hty) h0 (mm_ws_at hxc) hrc hi hd (fun H1 locs1 hP1 _ hS1 => kJ ls H1 locs1 cells slots hL ⟨?_, hS1, hco, hsl, hnx⟩)
  show va_P D cl (mm_ws ck ak dA B b S.1 (mm_sR S a i.toNatClampNeg (some x)).2.1) H1
  rw [mm_ws_ar_set ha hty (M' := (mm_sR S a i.toNatClampNeg (some x)).2.1) rfl (fun c hc => mm_sR_ag hc)]
  have e9 : mm_arr (.object rc.1) (mm_sR S a i.toNatClampNeg (some x)).2.1 B a = .inr (.inr (.inr (.inr (va_up (fun j => (S.2.1.2.2.1 a j).map (B + ·)) i.toNatClampNeg (some (B + x)))))) := by
    simp only [mm_arr, mm_sR]
    rw [mm_u_rowR]
    rfl
  rw [e9]
  exact hP1
theorem mm_ws_new {Sh : mm_Sh} {M M' : mm_M} {sh : Nat ⊕ (Nat × Nat)} (h : ∀ c, c ≠ Sh.length → mm_ag M M' c) : mm_ws ck ak dA B b (Sh ++ [sh]) M' = mm_ws ck ak dA B b Sh M ++ [(B + Sh.length, mm_cell ck ak dA B b M' Sh.length sh)] := by
  refine List.ext_getElem? fun i => ?_
  by_cases hi : i < Sh.length
  · have e := List.getElem?_eq_getElem hi
    have e' : (Sh ++ [sh])[i]? = some Sh[i] := by rw [List.getElem?_append_left hi]; exact e
    rw [mm_ws_at e', List.getElem?_append_left (by rw [mm_ws_len]; exact hi), mm_ws_at e, mm_cell_ag (h i (by omega))]
  · by_cases hi2 : i = Sh.length
    · subst hi2
      have e' : (Sh ++ [sh])[Sh.length]? = some sh := by simp
      rw [mm_ws_at e', List.getElem?_append_right (by rw [mm_ws_len]; exact Nat.le_refl _), mm_ws_len, Nat.sub_self]
      rfl
    · rw [List.getElem?_eq_none (by rw [mm_ws_len, List.length_append, List.length_singleton]; omega), List.getElem?_eq_none (by rw [List.length_append, mm_ws_len, List.length_singleton]; omega)]
theorem mm_fresh {Sh : mm_Sh} {M : mm_M} {q : Nat} {x : va_E} {H1 : Heap} (hP : va_P D cl (mm_ws ck ak dA B b Sh M ++ [(q, x)]) H1) (hD : va_D (fun q => B ≤ q) (mm_ws ck ak dA B b Sh M ++ [(q, x)])) (hz : H1.size ≤ B + Sh.length + 1) : q = B + Sh.length := by
  have hlast : (mm_ws ck ak dA B b Sh M ++ [(q, x)])[Sh.length]? = some (q, x) := by
    rw [List.getElem?_append_right (by rw [mm_ws_len]; exact Nat.le_refl _), mm_ws_len, Nat.sub_self]
    rfl
  have h1 : q < H1.size := (hP _ _ hlast).lt
  have h2 : B ≤ q := hD.2 _ _ hlast
  by_cases h3 : q < B + Sh.length
  · have ha : q - B < Sh.length := by omega
    have e := mm_ws_at (ck := ck) (ak := ak) (dA := dA) (B := B) (b := b) (M := M) (List.getElem?_eq_getElem ha)
    have e2 := (List.getElem?_append_left (l₂ := [(q, x)]) (by rw [mm_ws_len]; exact ha)).trans e
    have e3 := hD.1 _ _ _ _ e2 hlast (by show B + (q - B) = q; omega)
    omega
  · omega
theorem mm_new_ag (S : mm_St) (sh : Nat ⊕ (Nat × Nat)) : ∀ c, c ≠ S.1.length → mm_ag S.2.1 (mm_new S sh).2.1 c := fun c hc => ⟨mm_z_ag hc, mm_z_ag hc, mm_z_ag hc, mm_z_ag hc⟩
theorem mm_sz_app (ck : Nat → List Nat) (a b : mm_Sh) : mm_sz ck (a ++ b) = mm_sz ck a + mm_sz ck b := by
  induction a with
  | nil => simp [mm_sz]
  | cons x a ih =>
    cases x with
    | inl ci => simp only [List.cons_append, mm_sz, ih]; omega
    | inr tn => simp only [List.cons_append, mm_sz, ih]; omega
theorem mm_new_rd (S : mm_St) (sh : Nat ⊕ (Nat × Nat)) {kd : Nat} {ty : FieldType} (h : mm_kt kd ty = true) (k : Nat) : mm_v B b (mm_rd (mm_new S sh).2.1 kd S.1.length k) = defaultValue ty := by
  have z1 : ∀ {α : Type} (f : Nat → Nat → α) (d : α), mm_z f S.1.length d S.1.length k = d := fun f d => by simp [mm_z]
  match kd, h with
  | 0, h => rw [mm_kt0 h]; simp [mm_rd, mm_new, z1, mm_v, defaultValue]
  | 1, h => rw [mm_kt1 h]; simp [mm_rd, mm_new, z1, mm_v, defaultValue]
  | 2, h =>
    rcases mm_kt2 h with ⟨n, h⟩ | ⟨t, h⟩
    · rw [h]; simp [mm_rd, mm_new, z1, mm_v, va_rf, defaultValue]
    · rw [h]; simp [mm_rd, mm_new, z1, mm_v, va_rf, defaultValue]
  | 3, h => rw [mm_kt3 h]; simp [mm_rd, mm_new, z1, mm_v, defaultValue]
  | 4, h => rw [mm_kt4 h]; simp [mm_rd, mm_new, z1, mm_v, defaultValue]
  | n + 5, h => cases ty <;> cases h
theorem mm_k_new {ix ci : Nat} {C : String} {T : u_T} {N : Nat} (X : CallFix p m c cc nL s args TT own) (hK : va_K D cl tys s) (hCK : mm_CK cl ck ct TT) (hc1 : cl[ci]? = some (C, T, N)) (w1 : Cond.classLink own ix C ∈ TT) (w2 : Cond.instantiable C N ∈ TT) (w3 : Cond.initialized C ∈ TT) (hd : decode cc pc = .ok (.new ix, 3)) (hB : B ≤ s.heap.size) (hex : S0.2.2 = 0 → s.heap.size = B + S0.1.length)
    (h0 : S.2.2 = 0) (hRc : mm_co (mm_new S (.inl ci)) ≤ mm_co S0 + R.cells) (hRs : mm_sl ck (mm_new S (.inl ci)) ≤ mm_sl ck S0 + R.slots)
    (kJ : mm_J p l e R s m args below meth c Q B b nL (mm_Rz D cl ck ak dA B b s.heap S0) (pc + 3, L, .ref S.1.length :: st, mm_new S (.inl ci))) : mm_J p l e R s m args below meth c Q B b nL (mm_Rz D cl ck ak dA B b s.heap S0) (pc, L, st, S) := by
  obtain ⟨hx, hb, hml, hown, hts⟩ := X
  obtain ⟨hin, hlen, hty, hnm, hkt⟩ := hCK ci C T N hc1
  intro ls H locs cells slots hL hR
  obtain ⟨hP, hS, hco, hsl, hnx⟩ := hR
  have hl1 : (mm_new S (.inl ci)).1.length = S.1.length + 1 := by simp [mm_new]
  have hz1 : mm_sz ck (mm_new S (.inl ci)).1 = mm_sz ck S.1 + N := by
    show mm_sz ck (S.1 ++ [.inl ci]) = _
    rw [mm_sz_app]
    simp only [mm_sz, hlen, Nat.add_zero]
  have hn1 : (mm_new S (.inl ci)).2.2 = S.2.2 := rfl
  have hRc : S.1.length + 1 + S.2.2 ≤ S0.1.length + S0.2.2 + R.cells := by
    have := hRc
    simp only [mm_co, hl1, hn1] at this
    exact this
  have hRs : mm_sz ck S.1 + N + 6 * S.2.2 ≤ mm_sz ck S0.1 + 6 * S0.2.2 + R.slots := by
    have := hRs
    simp only [mm_sl, hz1, hn1] at this
    exact this
  have hco : S0.1.length + S0.2.2 + cells = S.1.length + S.2.2 := hco
  have hsl : mm_sz ck S0.1 + 6 * S0.2.2 + slots = mm_sz ck S.1 + 6 * S.2.2 := hsl
  have hnx : S0.2.2 ≤ S.2.2 := hnx
  refine va_new (ci := ci) (fs := mm_fs (mm_new S (.inl ci)).2.1 B b S.1.length (ck ci)) hx hb hts hin (ct ci) hty hown (hts _ w1) (hts _ w2) (hts _ w3) hK hP (mm_ws_D (fun q h => h) _ _) hS (fun q h => Nat.le_trans hB h) hc1 ?_ (by omega) (by omega) hd (fun q H1 hP1 hD1 hS1 => ?_)
  · intro j hj
    have hj2 : j < (ck ci).length := by rw [hlen]; exact hj
    have e := List.getElem?_eq_getElem hj2
    rw [vp_V, List.getD_eq_getElem?_getD, mm_fs_at e, Option.getD_some, mm_new_rd S _ (hkt j _ e) j]
  · intro T9 hT9 X9
    have hsz := X9.heapSize
    rw [hT9] at hsz
    have hs0 := hex (by omega)
    have hq := mm_fresh (Sh := S.1) (M := S.2.1) hP1 hD1 (by omega)
    subst hq
    refine kJ ls H1 locs (cells + 1) (slots + N) hL ⟨?_, hS1, ?_, ?_, hnx⟩ T9 hT9 X9
    · show va_P D cl (mm_ws ck ak dA B b (S.1 ++ [.inl ci]) (mm_new S (.inl ci)).2.1) H1
      rw [mm_ws_new (mm_new_ag S _)]
      exact hP1
    · simp only [mm_co, hl1, hn1]; omega
    · simp only [mm_sl, hz1, hn1]; omega
theorem mm_RA_one {ty : FieldType} {c1 c2 : ClassId} (h1 : va_RA s c1 ty) (h2 : va_RA s c2 ty) : c1 = c2 := by
  cases ty with
  | object C =>
    obtain ⟨k1, m1, -, -, -, h1⟩ := h1
    obtain ⟨k2, m2, -, -, -, h2⟩ := h2
    exact Option.some.inj (h1.symm.trans h2)
  | _ => exact Option.some.inj (Eq.trans (Eq.symm h1) h2)
theorem mm_new_arr (S : mm_St) (sh : Nat ⊕ (Nat × Nat)) (n : Nat) {ty : FieldType} (h : mm_ty ty < 6) (cA : ClassId) : vp_cell cA (n, mm_arr ty (mm_new S sh).2.1 B S.1.length) = arrV cA n (fun _ => defaultValue ty) := by
  have z1 : ∀ {α : Type} (f : Nat → Nat → α) (d : α), mm_z f S.1.length d S.1.length = fun _ => d := fun f d => by funext k; simp [mm_z]
  cases ty with
  | int => simp [mm_arr, mm_new, z1, vp_cell, defaultValue]
  | char => simp [mm_arr, mm_new, z1, vp_cell, defaultValue]
  | double => simp [mm_arr, mm_new, z1, vp_cell, defaultValue]
  | long => simp [mm_arr, mm_new, z1, vp_cell, defaultValue]
  | boolean => simp [mm_arr, mm_new, z1, vp_cell, defaultValue]
  | object C => simp [mm_arr, mm_new, z1, vp_cell, defaultValue, va_rf]
  | _ => simp [mm_ty] at h
theorem mm_k_newa {atype : ArrayType} {t : Nat} {n : Int32} (X : CallFix p m c cc nL s args TT own) (hK : va_K D cl tys s) (hT : mm_AT tys ak dA) (hty : newarray.typeOf atype = ak t) (ht6 : mm_ty (ak t) < 6) (hby : componentBytes (ak t) ≤ 8) (w1 : Cond.arrayClass (newarray.typeOf atype) ∈ TT) (hd : decode cc pc = .ok (.newarray atype, 2)) (hB : B ≤ s.heap.size) (hex : S0.2.2 = 0 → s.heap.size = B + S0.1.length)
    (h0 : S.2.2 = 0) (hn : ¬ n < 0) (hRb : R.slots ≤ 60000000) (hRc : mm_co (mm_new S (.inr (t, n.toNatClampNeg))) ≤ mm_co S0 + R.cells) (hRs : mm_sl ck (mm_new S (.inr (t, n.toNatClampNeg))) ≤ mm_sl ck S0 + R.slots)
    (kJ : mm_J p l e R s m args below meth c Q B b nL (mm_Rz D cl ck ak dA B b s.heap S0) (pc + 2, L, .ref S.1.length :: st, mm_new S (.inr (t, n.toNatClampNeg)))) : mm_J p l e R s m args below meth c Q B b nL (mm_Rz D cl ck ak dA B b s.heap S0) (pc, L, .int n :: st, S) := by
  obtain ⟨hx, hb, hml, hown, hts⟩ := X
  obtain ⟨t0, ht0⟩ := hT t
  intro ls H locs cells slots hL hR
  obtain ⟨hP, hS, hco, hsl, hnx⟩ := hR
  generalize hN : n.toNatClampNeg = N at hRc hRs kJ
  have hl1 : (mm_new S (.inr (t, N))).1.length = S.1.length + 1 := by simp [mm_new]
  have hz1 : mm_sz ck (mm_new S (.inr (t, N))).1 = mm_sz ck S.1 + N := by
    show mm_sz ck (S.1 ++ [.inr (t, N)]) = _
    rw [mm_sz_app]
    simp only [mm_sz, Nat.add_zero]
  have hn1 : (mm_new S (.inr (t, N))).2.2 = S.2.2 := rfl
  have hRc : S.1.length + 1 + S.2.2 ≤ S0.1.length + S0.2.2 + R.cells := by
    have := hRc
    simp only [mm_co, hl1, hn1] at this
    exact this
  have hRs : mm_sz ck S.1 + N + 6 * S.2.2 ≤ mm_sz ck S0.1 + 6 * S0.2.2 + R.slots := by
    have := hRs
    simp only [mm_sl, hz1, hn1] at this
    exact this
  have hco : S0.1.length + S0.2.2 + cells = S.1.length + S.2.2 := hco
  have hsl : mm_sz ck S0.1 + 6 * S0.2.2 + slots = mm_sz ck S.1 + 6 * S.2.2 := hsl
  have hnx : S0.2.2 ≤ S.2.2 := hnx
  have hNb : N * componentBytes (ak t) ≤ N * 8 := Nat.mul_le_mul_left _ hby
  refine va_newa (a0 := (N, mm_arr (ak t) (mm_new S (.inr (t, N))).2.1 B S.1.length)) hx hb (hts _ w1) hty hK hP (mm_ws_D (fun q h => h) _ _) hS (fun q h => Nat.le_trans hB h) (fun cA => mm_new_arr S _ N ht6 cA) hn hN (by omega) (by omega) (by omega) hd (fun q cA H1 hK1 hP1 hD1 hS1 => ?_)
  intro T9 hT9 X9
  have hsz := X9.heapSize
  rw [hT9] at hsz
  have hs0 := hex (by omega)
  have hq := mm_fresh (Sh := S.1) (M := S.2.1) hP1 hD1 (by omega)
  subst hq
  have hcA : cA = dA t := mm_RA_one (hK1.2 tys.length (cA, ak t) (by simp)).2 (hK.2 t0 _ ht0).2
  subst hcA
  refine kJ ls H1 locs (cells + 1) (slots + N) hL ⟨?_, hS1, ?_, ?_, hnx⟩ T9 hT9 X9
  · show va_P D cl (mm_ws ck ak dA B b (S.1 ++ [.inr (t, N)]) (mm_new S (.inr (t, N))).2.1) H1
    rw [mm_ws_new (mm_new_ag S _)]
    exact hP1
  · simp only [mm_co, hl1, hn1]; omega
  · simp only [mm_sl, hz1, hn1]; omega
theorem mm_k_newq {ix t : Nat} {C : String} {n : Int32} (X : CallFix p m c cc nL s args TT own) (hK : va_K D cl tys s) (hT : mm_AT tys ak dA) (hty : ak t = .object C) (w1 : Cond.classLink own ix C ∈ TT) (w2 : va_AO C s) (hd : decode cc pc = .ok (.anewarray ix, 3)) (hB : B ≤ s.heap.size) (hex : S0.2.2 = 0 → s.heap.size = B + S0.1.length)
    (h0 : S.2.2 = 0) (hn : ¬ n < 0) (hRb : R.slots ≤ 60000000) (hRc : mm_co (mm_new S (.inr (t, n.toNatClampNeg))) ≤ mm_co S0 + R.cells) (hRs : mm_sl ck (mm_new S (.inr (t, n.toNatClampNeg))) ≤ mm_sl ck S0 + R.slots)
    (kJ : mm_J p l e R s m args below meth c Q B b nL (mm_Rz D cl ck ak dA B b s.heap S0) (pc + 3, L, .ref S.1.length :: st, mm_new S (.inr (t, n.toNatClampNeg)))) : mm_J p l e R s m args below meth c Q B b nL (mm_Rz D cl ck ak dA B b s.heap S0) (pc, L, .int n :: st, S) := by
  obtain ⟨hx, hb, hml, hown, hts⟩ := X
  obtain ⟨t0, ht0⟩ := hT t
  intro ls H locs cells slots hL hR
  obtain ⟨hP, hS, hco, hsl, hnx⟩ := hR
  generalize hN : n.toNatClampNeg = N at hRc hRs kJ
  have hl1 : (mm_new S (.inr (t, N))).1.length = S.1.length + 1 := by simp [mm_new]
  have hz1 : mm_sz ck (mm_new S (.inr (t, N))).1 = mm_sz ck S.1 + N := by
    show mm_sz ck (S.1 ++ [.inr (t, N)]) = _
    rw [mm_sz_app]
    simp only [mm_sz, Nat.add_zero]
  have hn1 : (mm_new S (.inr (t, N))).2.2 = S.2.2 := rfl
  have hRc : S.1.length + 1 + S.2.2 ≤ S0.1.length + S0.2.2 + R.cells := by
    have := hRc
    simp only [mm_co, hl1, hn1] at this
    exact this
  have hRs : mm_sz ck S.1 + N + 6 * S.2.2 ≤ mm_sz ck S0.1 + 6 * S0.2.2 + R.slots := by
    have := hRs
    simp only [mm_sl, hz1, hn1] at this
    exact this
  have hco : S0.1.length + S0.2.2 + cells = S.1.length + S.2.2 := hco
  have hsl : mm_sz ck S0.1 + 6 * S0.2.2 + slots = mm_sz ck S.1 + 6 * S.2.2 := hsl
  have hnx : S0.2.2 ≤ S.2.2 := hnx
  refine va_newq hx hb hown (hts _ w1) w2 hK hP (mm_ws_D (fun q h => h) _ _) hS (fun q h => Nat.le_trans hB h) hn hN (by omega) (by omega) (by omega) hd (fun q cA H1 hK1 hP1 hD1 hS1 => ?_)
  intro T9 hT9 X9
  have hsz := X9.heapSize
  rw [hT9] at hsz
  have hs0 := hex (by omega)
  have hq := mm_fresh (Sh := S.1) (M := S.2.1) hP1 hD1 (by omega)
  subst hq
  rw [hty] at ht0
  have hcA : cA = dA t := mm_RA_one (hK1.2 tys.length (cA, .object C) (by simp)).2 (hK.2 t0 _ ht0).2
  subst hcA
  refine kJ ls H1 locs (cells + 1) (slots + N) hL ⟨?_, hS1, ?_, ?_, hnx⟩ T9 hT9 X9
  · show va_P D cl (mm_ws ck ak dA B b (S.1 ++ [.inr (t, N)]) (mm_new S (.inr (t, N))).2.1) H1
    rw [mm_ws_new (mm_new_ag S _)]
    have e9 : mm_cell ck ak dA B b (mm_new S (.inr (t, N))).2.1 S.1.length (.inr (t, N)) = .inl (dA t, N, .inr (.inr (.inr (.inr (fun _ => none))))) := by
      have z1 : ∀ {α : Type} (f : Nat → Nat → α) (d : α), mm_z f S.1.length d S.1.length = fun _ => d := fun f d => by funext k; simp [mm_z]
      simp [mm_cell, hty, mm_arr, mm_new, z1]
    rw [e9]
    exact hP1
  · simp only [mm_co, hl1, hn1]; omega
  · simp only [mm_sl, hz1, hn1]; omega
end NEW
