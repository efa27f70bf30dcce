/-! THE SMALL MACHINE AND THE HEAP: a small address a is the cell B + a; the script is the cell b -/
def mm_v (B b : Nat) : Value → Value
  | .ref a => .ref (B + a)
  | .retAddr _ => .ref b
  | v => v
theorem mm_v_cat (B b : Nat) (v : Value) : (mm_v B b v).category = cond (mm_c2 v) 2 1 := by cases v <;> rfl
theorem mm_v_rf (B b : Nat) (r : Option Nat) : mm_v B b (va_rf r) = va_rf (r.map (B + ·)) := by cases r <;> rfl
theorem mm_wt_eq (B b : Nat) (st : List Value) : ((st.map (mm_v B b)).map fun v => v.category).sum = mm_wt st := by
  induction st with
  | nil => rfl
  | cons v vs ih =>
    simp only [List.map_cons, List.sum_cons, mm_v_cat, mm_wt] at ih ⊢
    rw [ih]
def mm_fs (M : mm_M) (B b a : Nat) (kds : List Nat) : List Value := (List.range kds.length).map fun k => mm_v B b (mm_rd M (kds.getD k 0) a k)
theorem mm_fs_at {M : mm_M} {B b a : Nat} {kds : List Nat} {k kd : Nat} (h : kds[k]? = some kd) : (mm_fs M B b a kds)[k]? = some (mm_v B b (mm_rd M kd a k)) := by
  have hk : k < kds.length := (List.getElem?_eq_some_iff.mp h).1
  have e : kds[k] = kd := (List.getElem?_eq_some_iff.mp h).2
  simp [mm_fs, hk, e]
theorem mm_fs_len (M : mm_M) (B b a : Nat) (kds : List Nat) : (mm_fs M B b a kds).length = kds.length := by simp [mm_fs]
/-- only what lies at the address a tells -/
theorem mm_fs_eq {M M' : mm_M} {B b a : Nat} {kds : List Nat} (h : ∀ k kd, kds[k]? = some kd → mm_rd M' kd a k = mm_rd M kd a k) : mm_fs M' B b a kds = mm_fs M B b a kds := by
  refine List.ext_getElem? fun i => ?_
  by_cases hi : i < kds.length
  · have e := List.getElem?_eq_getElem hi
    rw [mm_fs_at e, mm_fs_at e, h i _ e]
  · rw [List.getElem?_eq_none (by rw [mm_fs_len]; omega), List.getElem?_eq_none (by rw [mm_fs_len]; omega)]
theorem mm_fs_set {M M' : mm_M} {B b a : Nat} {kds : List Nat} {k kd : Nat} {v : Value} (hk : kds[k]? = some kd) (hv : mm_rd M' kd a k = v) (h : ∀ j kj, j ≠ k → kds[j]? = some kj → mm_rd M' kj a j = mm_rd M kj a j) :
    mm_fs M' B b a kds = (mm_fs M B b a kds).set k (mm_v B b v) := by
  have hlt : k < kds.length := (List.getElem?_eq_some_iff.mp hk).1
  refine List.ext_getElem? fun i => ?_
  rw [List.getElem?_set]
  by_cases hi : i < kds.length
  · have e := List.getElem?_eq_getElem hi
    by_cases hik : k = i
    · subst hik
      rw [if_pos rfl, if_pos (by rw [mm_fs_len]; exact hlt), mm_fs_at hk, hv]
    · rw [if_neg hik, mm_fs_at e, mm_fs_at e, h i _ (Ne.symm hik) e]
  · rw [if_neg (by omega), List.getElem?_eq_none (by rw [mm_fs_len]; omega), List.getElem?_eq_none (by rw [mm_fs_len]; omega)]
def mm_arr (ty : FieldType) (M : mm_M) (B a : Nat) : (Nat → Int32) ⊕ (Nat → Int64) ⊕ (Nat → UInt32) ⊕ (Nat → UInt64) ⊕ (Nat → Option Nat) := match ty with
  | .double => .inr (.inr (.inr (.inl (M.2.1 a))))
  | .long => .inr (.inl (M.2.2.2 a))
  | .object _ => .inr (.inr (.inr (.inr (fun j => (M.2.2.1 a j).map (B + ·)))))
  | _ => .inl (M.1 a)
section REL
variable (ck : Nat → List Nat) (ak : Nat → FieldType) (dA : Nat → ClassId) (B b : Nat)
def mm_cell (M : mm_M) (a : Nat) : Nat ⊕ (Nat × Nat) → va_E
  | .inl ci => .inr (ci, mm_fs M B b a (ck ci))
  | .inr (t, n) => .inl (dA t, n, mm_arr (ak t) M B a)
def mm_ws (Sh : mm_Sh) (M : mm_M) : va_W := (List.range Sh.length).map fun a => (B + a, mm_cell ck ak dA B b M a (Sh.getD a (.inl 0)))
variable {ck ak dA B b}
theorem mm_ws_at {Sh : mm_Sh} {M : mm_M} {a : Nat} {sh : Nat ⊕ (Nat × Nat)} (h : Sh[a]? = some sh) : (mm_ws ck ak dA B b Sh M)[a]? = some (B + a, mm_cell ck ak dA B b M a sh) := by
  have ha : a < Sh.length := (List.getElem?_eq_some_iff.mp h).1
  have e : Sh[a] = sh := (List.getElem?_eq_some_iff.mp h).2
  simp [mm_ws, ha, e]
theorem mm_ws_len (Sh : mm_Sh) (M : mm_M) : (mm_ws ck ak dA B b Sh M).length = Sh.length := by simp [mm_ws]
theorem mm_ws_of {Sh : mm_Sh} {M : mm_M} {a : Nat} {q : Nat × va_E} (h : (mm_ws ck ak dA B b Sh M)[a]? = some q) : q.1 = B + a ∧ a < Sh.length := by
  have ha : a < Sh.length := by
    have := (List.getElem?_eq_some_iff.mp h).1
    rwa [mm_ws_len] at this
  rw [mm_ws_at (List.getElem?_eq_getElem ha)] at h
  cases h
  exact ⟨rfl, ha⟩
theorem mm_ws_D {A : Nat → Prop} (hA : ∀ q, B ≤ q → A q) (Sh : mm_Sh) (M : mm_M) : va_D A (mm_ws ck ak dA B b Sh M) := by
  refine ⟨fun i j p q hp hq he => ?_, fun k q hk => ?_⟩
  · have h1 := (mm_ws_of hp).1
    have h2 := (mm_ws_of hq).1
    omega
  · exact hA _ (by have := (mm_ws_of hk).1; omega)
/-- a cell's change -/
theorem mm_ws_set {Sh : mm_Sh} {M M' : mm_M} {a : Nat} {sh : Nat ⊕ (Nat × Nat)} {e : va_E} (ha : Sh[a]? = some sh) (he : mm_cell ck ak dA B b M' a sh = e)
    (h : ∀ c, c ≠ a → ∀ sc, Sh[c]? = some sc → mm_cell ck ak dA B b M' c sc = mm_cell ck ak dA B b M c sc) : mm_ws ck ak dA B b Sh M' = (mm_ws ck ak dA B b Sh M).set a (B + a, e) := by
  have hlt : a < Sh.length := (List.getElem?_eq_some_iff.mp ha).1
  refine List.ext_getElem? fun i => ?_
  rw [List.getElem?_set]
  by_cases hi : i < Sh.length
  · have e0 := List.getElem?_eq_getElem hi
    by_cases hia : a = i
    · subst hia
      rw [if_pos rfl, if_pos (by rw [mm_ws_len]; exact hlt), mm_ws_at ha, he]
    · rw [if_neg hia, mm_ws_at e0, mm_ws_at e0, h i (Ne.symm hia) _ e0]
  · rw [if_neg (by omega), List.getElem?_eq_none (by rw [mm_ws_len]; omega), List.getElem?_eq_none (by rw [mm_ws_len]; omega)]
/-- stores that agree at an address -/
def mm_ag (M M' : mm_M) (c : Nat) : Prop := M'.1 c = M.1 c ∧ M'.2.1 c = M.2.1 c ∧ M'.2.2.1 c = M.2.2.1 c ∧ M'.2.2.2 c = M.2.2.2 c
theorem mm_rd_ag {M M' : mm_M} {c : Nat} (h : mm_ag M M' c) (kd k : Nat) : mm_rd M' kd c k = mm_rd M kd c k := by
  obtain ⟨h1, h2, h3, h4⟩ := h
  unfold mm_rd
  split <;> simp [h1, h2, h3, h4]
theorem mm_cell_ag {M M' : mm_M} {c : Nat} (h : mm_ag M M' c) (sc : Nat ⊕ (Nat × Nat)) : mm_cell ck ak dA B b M' c sc = mm_cell ck ak dA B b M c sc := by
  cases sc with
  | inl ci => simp only [mm_cell]; rw [mm_fs_eq fun k kd _ => mm_rd_ag h kd k]
  | inr tn =>
    obtain ⟨t, n⟩ := tn
    obtain ⟨h1, h2, h3, h4⟩ := h
    simp only [mm_cell, mm_arr, h1, h2, h3, h4]
theorem mm_u_ag {α : Type} {f : Nat → Nat → α} {a k c : Nat} {x : α} (h : c ≠ a) : mm_u f a k x c = f c := by
  funext j
  exact mm_u_a h
theorem mm_z_ag {α : Type} {f : Nat → Nat → α} {a c : Nat} {d : α} (h : c ≠ a) : mm_z f a d c = f c := by
  funext j
  simp [mm_z, h]
theorem mm_sI_ag {S : mm_St} {a k c : Nat} {x : Int32} (h : c ≠ a) : mm_ag S.2.1 (mm_sI S a k x).2.1 c := ⟨mm_u_ag h, rfl, rfl, rfl⟩
theorem mm_sD_ag {S : mm_St} {a k c : Nat} {x : UInt64} (h : c ≠ a) : mm_ag S.2.1 (mm_sD S a k x).2.1 c := ⟨rfl, mm_u_ag h, rfl, rfl⟩
theorem mm_sR_ag {S : mm_St} {a k c : Nat} {x : Option Nat} (h : c ≠ a) : mm_ag S.2.1 (mm_sR S a k x).2.1 c := ⟨rfl, rfl, mm_u_ag h, rfl⟩
theorem mm_sJ_ag {S : mm_St} {a k c : Nat} {x : Int64} (h : c ≠ a) : mm_ag S.2.1 (mm_sJ S a k x).2.1 c := ⟨rfl, rfl, rfl, mm_u_ag h⟩
/-- a field is set -/
theorem mm_ws_f {S : mm_St} {M' : mm_M} {a ci k kd : Nat} {v : Value} (ha : S.1[a]? = some (.inl ci)) (hk : (ck ci)[k]? = some kd) (hv : mm_rd M' kd a k = v) (hj : ∀ j kj, j ≠ k → mm_rd M' kj a j = mm_rd S.2.1 kj a j) (hag : ∀ c, c ≠ a → mm_ag S.2.1 M' c) :
    mm_ws ck ak dA B b S.1 M' = (mm_ws ck ak dA B b S.1 S.2.1).set a (B + a, .inr (ci, (mm_fs S.2.1 B b a (ck ci)).set k (mm_v B b v))) :=
  mm_ws_set ha (by simp only [mm_cell]; rw [mm_fs_set hk hv fun j kj hjk _ => hj j kj hjk]) fun c hc sc _ => mm_cell_ag (hag c hc) sc
theorem mm_u_row (f : Nat → Nat → Int32) (a k : Nat) (x : Int32) : mm_u f a k x a = upd (f a) k x := by
  funext j
  simp [mm_u, upd]
theorem mm_u_rowD (f : Nat → Nat → UInt64) (a k : Nat) (x : UInt64) : mm_u f a k x a = vf_upd (f a) k x := by
  funext j
  simp [mm_u, vf_upd]
theorem mm_u_rowJ (f : Nat → Nat → Int64) (a k : Nat) (x : Int64) : mm_u f a k x a = vp_updL (f a) k x := by
  funext j
  simp [mm_u, vp_updL]
theorem mm_u_rowR (f : Nat → Nat → Option Nat) (a k : Nat) (x : Option Nat) : (fun j => (mm_u f a k x a j).map (B + ·)) = va_up (fun j => (f a j).map (B + ·)) k (x.map (B + ·)) := by
  funext j
  by_cases h : j = k <;> simp [mm_u, va_up, h]
end REL
