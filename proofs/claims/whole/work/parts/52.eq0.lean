/-! THE TWO READERS: how the codes of both belong together -/
/-- how many orders of the class one of the reference is, by the kinds on the stack (0 whole, 1 real, 2 a place of the row) -/
def wd (op : Int32) (t : List Nat) : Nat := if op = 3 then 2 else if op = 26 then 2 else if op = 5 then (if t.head? = some 1 then 1 else 0) else 1
def tg (b : Bool) : Nat := cond b 1 0
/-- the kinds behind an order -/
def tyS (op a : Int32) (t : List Nat) : List Nat :=
  if op = 1 then 0 :: t else if op = 2 then tg (isR a) :: t else if op = 3 then 0 :: t.tail else if op = 4 then 2 :: t.tail else if op = 5 then 0 :: t.tail
  else if op = 42 then (if a = 1 then 1 else 0) :: t.tail.tail else if op = 43 then (if a = 1 then 1 else 0) :: t.tail.tail else if op = 45 then (if a = 1 then 1 else 0) :: t.tail.tail
  else if op = 47 then 1 :: t.tail.tail else if op = 37 then 0 :: t.tail.tail else if op = 60 then 0 :: t.tail.tail else if op = 61 then 0 :: t.tail.tail else []
/-- the class's place, and the kinds, at a place of the reference's code -/
def ft (c a : Nat → Int32) : Nat → Nat × List Nat
  | 0 => (0, [])
  | i + 1 => ((ft c a i).1 + wd (c i) (ft c a i).2, tyS (c i) (a i) (ft c a i).2)
/-- an order of an expression -/
def eop (x : Int32) : Prop := x < 20 ∨ 30 < x
/-- one that isn't over -/
def nE (x : Int32) : Prop := x ≠ 29 ∧ x ≠ 30
/-- two numbers and an order between them: mark, whether real, kinds of right and left, the class's order -/
def bo (c a : Int32) (s t : Nat) (o : Int32) : Prop :=
  (c = 42 ∧ ((s = 0 ∧ t = 0 ∧ a = 0 ∧ o = 9) ∨ (a = 1 ∧ o = 12))) ∨ (c = 43 ∧ ((s = 0 ∧ t = 0 ∧ a = 0 ∧ o = 7) ∨ (a = 1 ∧ o = 10))) ∨ (c = 45 ∧ ((s = 0 ∧ t = 0 ∧ a = 0 ∧ o = 8) ∨ (a = 1 ∧ o = 11)))
  ∨ (c = 47 ∧ a = 1 ∧ o = 13) ∨ (c = 37 ∧ s = 0 ∧ t = 0 ∧ o = 14) ∨ (c = 60 ∧ o = 15) ∨ (c = 61 ∧ o = 16)
/-- the class's orders that belong to one of the reference -/
inductive Cn (c : Nat → Int32) (F : Nat → Nat × List Nat) (oC vC : Nat → Int32) (H i p : Nat) : Int32 → Int32 → Int32 → List Nat → Prop
  | num {a x : Int32} {t : List Nat} : oC p = 2 → vC p = a → Cn c F oC vC H i p 1 a x t
  | ld {k : Nat} {x : Int32} {t : List Nat} : k < 7 → oC p = 3 → vC p = Int32.ofNat k → Cn c F oC vC H i p 2 (Int32.ofNat k) x t
  | rw {a x : Int32} {t : List Nat} : oC p = 4 → oC (p + 1) = 5 → Cn c F oC vC H i p 3 a x (0 :: t)
  | rp {a x : Int32} : oC p = 4 → Cn c F oC vC H i p 4 a x [0]
  | wh1 {a x : Int32} {t : List Nat} : oC p = 6 → Cn c F oC vC H i p 5 a x (1 :: t)
  | wh0 {a x : Int32} {t : List Nat} : Cn c F oC vC H i p 5 a x (0 :: t)
  | bi {y a x : Int32} {s u : Nat} {t : List Nat} : s ≤ 1 → u ≤ 1 → bo y a s u (oC p) → Cn c F oC vC H i p y a x (s :: u :: t)
  | set {k : Nat} {x : Int32} {t : Nat} : k < 7 → t ≤ 1 → (isR (Int32.ofNat k) = false → t = 0) → oC p = 17 → vC p = Int32.ofNat k → Cn c F oC vC H i p 20 (Int32.ofNat k) x [t]
  | setr {a x : Int32} : oC p = 18 → Cn c F oC vC H i p 21 a x [0, 2]
  | wr {a x : Int32} {t : Nat} : t ≤ 1 → oC p = 20 → Cn c F oC vC H i p 22 a x [t]
  | wa {k : Nat} {x : Int32} : k < 2 → oC p = 21 → vC p = Int32.ofNat k → Cn c F oC vC H i p 23 (Int32.ofNat k) x []
  | sg {k : Nat} {x : Int32} : k < 2 → oC p = 22 → vC p = Int32.ofNat k → Cn c F oC vC H i p 24 (Int32.ofNat k) x []
  | ca {k : Nat} {x : Int32} : k < 4 → oC p = 23 → vC p = Int32.ofNat k → Cn c F oC vC H i p 25 (Int32.ofNat k) x []
  | bo {A X : Nat} : oC p = 24 → oC (p + 1) = 1 → vC p = Int32.ofNat (F A).1 → vC (p + 1) = Int32.ofNat (F X).1 → (F A).2 = [] → (F X).2 = [] → A < H → X ≤ H → i + 1 < H → nE (c A) → nE (c (i + 1)) → (F (i + 1)).2 = [] → Cn c F oC vC H i p 26 (Int32.ofNat A) (Int32.ofNat X) []
  | te {A : Nat} {x : Int32} : oC p = 19 → vC p = Int32.ofNat (F A).1 → (F A).2 = [] → A ≤ H → Cn c F oC vC H i p 28 (Int32.ofNat A) x [0]
  | ju {A : Nat} {x : Int32} : oC p = 1 → vC p = Int32.ofNat (F A).1 → (F A).2 = [] → A < H → nE (c A) → Cn c F oC vC H i p 29 (Int32.ofNat A) x []
  | en {a x : Int32} : oC p = 0 → Cn c F oC vC H i p 30 a x []
/-- all of lo .. hi - 1 -/
def Cg (c a x oC vC : Nat → Int32) (H lo hi : Nat) : Prop := ∀ i, lo ≤ i → i < hi → Cn c (ft c a) oC vC H i (ft c a i).1 (c i) (a i) (x i) (ft c a i).2
section EQ0
variable {c a x oC vC c' a' x' oC' vC' : Nat → Int32} {H H' i p lo hi : Nat}
theorem tyS26 {ar : Int32} {t : List Nat} : tyS 26 ar t = [] := by
  unfold tyS
  rw [if_neg (by decide), if_neg (by decide), if_neg (by decide), if_neg (by decide), if_neg (by decide), if_neg (by decide), if_neg (by decide), if_neg (by decide), if_neg (by decide), if_neg (by decide), if_neg (by decide), if_neg (by decide)]
theorem tyS28 {ar : Int32} {t : List Nat} : tyS 28 ar t = [] := by
  unfold tyS
  rw [if_neg (by decide), if_neg (by decide), if_neg (by decide), if_neg (by decide), if_neg (by decide), if_neg (by decide), if_neg (by decide), if_neg (by decide), if_neg (by decide), if_neg (by decide), if_neg (by decide), if_neg (by decide)]
theorem ft_congr : ∀ (n : Nat), (∀ j, j < n → c' j = c j ∧ (a' j = a j ∨ c j = 26 ∨ c j = 28)) → ∀ i, i ≤ n → ft c' a' i = ft c a i := by
  intro n h i
  induction i with
  | zero => intro _; rfl
  | succ i ih =>
    intro hi
    obtain ⟨h1, h2⟩ := h i (by omega)
    unfold ft
    rw [ih (by omega), h1]
    rcases h2 with h2 | h2 | h2
    · rw [h2]
    · rw [h2, tyS26, tyS26]
    · rw [h2, tyS28, tyS28]
theorem Cn.congr {F F' : Nat → Nat × List Nat} {op ar xr : Int32} {t : List Nat} (h : Cn c F oC vC H i p op ar xr t) (hc : ∀ j, j < H → c' j = c j) (hF : ∀ j, j ≤ H → F' j = F j) (hp : ∀ z, p ≤ z → z < p + wd op t → oC' z = oC z ∧ vC' z = vC z) (hH : H ≤ H') : Cn c' F' oC' vC' H' i p op ar xr t := by
  cases h with
  | num h1 h2 => exact .num (by rw [(hp p (by omega) (by simp [wd])).1, h1]) (by rw [(hp p (by omega) (by simp [wd])).2, h2])
  | ld h0 h1 h2 => exact .ld h0 (by rw [(hp p (by omega) (by simp [wd])).1, h1]) (by rw [(hp p (by omega) (by simp [wd])).2, h2])
  | rw h1 h2 => exact .rw (by rw [(hp p (by omega) (by simp [wd])).1, h1]) (by rw [(hp (p + 1) (by omega) (by simp [wd])).1, h2])
  | rp h1 => exact .rp (by rw [(hp p (by omega) (by simp [wd])).1, h1])
  | wh1 h1 => exact .wh1 (by rw [(hp p (by omega) (by simp [wd])).1, h1])
  | wh0 => exact .wh0
  | bi h1 h2 h3 =>
    refine .bi h1 h2 ?_
    rw [(hp p (by omega) ?_).1]
    · exact h3
    · rcases h3 with h | h | h | h | h | h | h <;> (obtain ⟨rfl, _⟩ := h; simp [wd])
  | set h0 h1 h2 h3 h4 => exact .set h0 h1 h2 (by rw [(hp p (by omega) (by simp [wd])).1, h3]) (by rw [(hp p (by omega) (by simp [wd])).2, h4])
  | setr h1 => exact .setr (by rw [(hp p (by omega) (by simp [wd])).1, h1])
  | wr h0 h1 => exact .wr h0 (by rw [(hp p (by omega) (by simp [wd])).1, h1])
  | wa h0 h1 h2 => exact .wa h0 (by rw [(hp p (by omega) (by simp [wd])).1, h1]) (by rw [(hp p (by omega) (by simp [wd])).2, h2])
  | sg h0 h1 h2 => exact .sg h0 (by rw [(hp p (by omega) (by simp [wd])).1, h1]) (by rw [(hp p (by omega) (by simp [wd])).2, h2])
  | ca h0 h1 h2 => exact .ca h0 (by rw [(hp p (by omega) (by simp [wd])).1, h1]) (by rw [(hp p (by omega) (by simp [wd])).2, h2])
  | @bo A X h1 h2 h3 h4 h5 h6 h7 h8 h9 h10 h11 h12 =>
    refine .bo (by rw [(hp p (by omega) (by simp [wd])).1, h1]) (by rw [(hp (p + 1) (by omega) (by simp [wd])).1, h2]) ?_ ?_ ?_ ?_ (by omega) (by omega) (by omega) ?_ ?_ ?_
    · rw [(hp p (by omega) (by simp [wd])).2, h3, hF A (by omega)]
    · rw [(hp (p + 1) (by omega) (by simp [wd])).2, h4, hF X (by omega)]
    · rw [hF A (by omega), h5]
    · rw [hF X (by omega), h6]
    · rw [hc A h7]; exact h10
    · rw [hc (i + 1) h9]; exact h11
    · rw [hF (i + 1) (by omega), h12]
  | @te A x h1 h2 h3 h4 => exact .te (by rw [(hp p (by omega) (by simp [wd])).1, h1]) (by rw [(hp p (by omega) (by simp [wd])).2, h2, hF A h4]) (by rw [hF A h4, h3]) (by omega)
  | @ju A x h1 h2 h3 h4 h5 => exact .ju (by rw [(hp p (by omega) (by simp [wd])).1, h1]) (by rw [(hp p (by omega) (by simp [wd])).2, h2, hF A (by omega)]) (by rw [hF A (by omega), h3]) (by omega) (by rw [hc A h4]; exact h5)
  | en h1 => exact .en (by rw [(hp p (by omega) (by simp [wd])).1, h1])
theorem ft_le : ∀ {i j : Nat}, i ≤ j → (ft c a i).1 ≤ (ft c a j).1 := by
  intro i j h
  induction h with
  | refl => exact Nat.le_refl _
  | step _ ih => exact Nat.le_trans ih (Nat.le_add_right _ _)
/-- a piece of code stays as it is -/
theorem Cg.congr (h : Cg c a x oC vC H lo hi) (hh : hi ≤ H) (hc : ∀ j, j < H → c' j = c j) (ha : ∀ j, j < H → a' j = a j ∨ c j = 26 ∨ c j = 28) (hax : ∀ j, lo ≤ j → j < hi → a' j = a j ∧ x' j = x j) (hp : ∀ z, (ft c a lo).1 ≤ z → z < (ft c a hi).1 → oC' z = oC z ∧ vC' z = vC z) (hH : H ≤ H') : Cg c' a' x' oC' vC' H' lo hi := by
  have hF : ∀ j, j ≤ H → ft c' a' j = ft c a j := ft_congr H (fun j hj => ⟨hc j hj, ha j hj⟩)
  intro i h1 h2
  rw [hF i (by omega), hc i (by omega), (hax i h1 h2).1, (hax i h1 h2).2]
  refine (h i h1 h2).congr hc hF (fun z z1 z2 => hp z (Nat.le_trans (ft_le h1) z1) (Nat.lt_of_lt_of_le z2 ?_)) hH
  show (ft c a (i + 1)).1 ≤ _
  exact ft_le h2
theorem Cg.app (h1 : Cg c a x oC vC H lo i) (h2 : Cg c a x oC vC H i hi) : Cg c a x oC vC H lo hi := by
  intro j k1 k2
  by_cases h : j < i
  · exact h1 j k1 h
  · exact h2 j (by omega) k2
theorem Cg.one (h : Cn c (ft c a) oC vC H lo (ft c a lo).1 (c lo) (a lo) (x lo) (ft c a lo).2) : Cg c a x oC vC H lo (lo + 1) := by
  intro j k1 k2
  have e : j = lo := by omega
  subst e
  exact h
theorem Cg.nil : Cg c a x oC vC H lo lo := fun j k1 k2 => by omega
end EQ0
/-! the class's reader: what its small steps leave -/
section EQ1
variable {I0 : pd_I} {m : Nat} {P : pd_P} {o v : Int32} {b : Bool} {k : Nat}
theorem add_lt (h : pN P < 49) : add P o v = ⟨(P.1.1, P.1.2.1, P.1.2.2.1, P.1.2.2.2.1, pN P + 1, pd_up (pO P) (pN P) o, pd_up (pV P) (pN P) v), P.2.1, by show pN P + 1 ≤ 49; omega⟩ := by unfold add; rw [dif_pos h]
theorem pA_add : pA (add P o v) = pA P := by unfold add; split <;> rfl
theorem pR_add : pR (add P o v) = pR P := by unfold add; split <;> rfl
theorem pW_add : pW (add P o v) = pW P := by unfold add; split <;> rfl
theorem pS_add : pS (add P o v) = pS P := by unfold add; split <;> rfl
theorem pN_add (h : pN P < 49) : pN (add P o v) = pN P + 1 := by rw [add_lt h]; rfl
theorem pO_add (h : pN P < 49) : pO (add P o v) = pd_up (pO P) (pN P) o := by rw [add_lt h]; rfl
theorem pV_add (h : pN P < 49) : pV (add P o v) = pd_up (pV P) (pN P) v := by rw [add_lt h]; rfl
theorem pA_ni : pA (ni P b) = pA P := by unfold ni; split <;> rfl
theorem pR_ni : pR (ni P b) = pR P := by unfold ni; split <;> rfl
theorem pW_ni : pW (ni P b) = (pW P || b) := by
  unfold ni
  cases b
  · rw [if_neg (by decide), Bool.or_false]
  · rw [if_pos rfl, Bool.or_true]; rfl
theorem pS_ni : pS (ni P b) = pS P := by unfold ni; split <;> rfl
theorem pN_ni : pN (ni P b) = pN P := by unfold ni; split <;> rfl
theorem pO_ni : pO (ni P b) = pO P := by unfold ni; split <;> rfl
theorem pV_ni : pV (ni P b) = pV P := by unfold ni; split <;> rfl
theorem pA_pt : pA (ptH P k) = pA P := by unfold ptH; split <;> rfl
theorem pR_pt : pR (ptH P k) = pR P := by unfold ptH; split <;> rfl
theorem pW_pt : pW (ptH P k) = pW P := by unfold ptH; split <;> rfl
theorem pS_pt : pS (ptH P k) = pS P := by unfold ptH; split <;> rfl
theorem pN_pt : pN (ptH P k) = pN P := by unfold ptH; split <;> rfl
theorem pO_pt : pO (ptH P k) = pO P := by unfold ptH; split <;> rfl
theorem pV_pt (h : k < 49) : pV (ptH P k) = pd_up (pV P) k (Int32.ofNat (pN P)) := by unfold ptH; rw [if_pos h]; rfl
theorem pA_adv (h : pA P < 48) : pA (adv P) = pA P + 1 := by unfold adv; rw [dif_pos h]; rfl
theorem pR_adv : pR (adv P) = pR P := by unfold adv; split <;> rfl
theorem pW_adv : pW (adv P) = pW P := by unfold adv; split <;> rfl
theorem pS_adv : pS (adv P) = pS P := by unfold adv; split <;> rfl
theorem pN_adv : pN (adv P) = pN P := by unfold adv; split <;> rfl
theorem pO_adv : pO (adv P) = pO P := by unfold adv; split <;> rfl
theorem pV_adv : pV (adv P) = pV P := by unfold adv; split <;> rfl
theorem pA_rfs : pA (rfs P) = pA P := rfl
theorem pR_rfs : pR (rfs P) = true := rfl
/-- refused: nothing more is taken -/
theorem pk_r (h : pR P = true) : pk I0 m P = 0 := by unfold pk; rw [if_pos h]
theorem nd_r {y : Int32} (hy : y ≠ 0) (h : pR P = true) : nd I0 m P y = (false, rfs P) := by unfold nd; rw [pk_r h, if_neg (fun h => hy h.symm)]
theorem nd_2 {y : Int32} (hy : y ≠ 0) (h : pR P = true) : pA (nd I0 m P y).2 = pA P ∧ pR (nd I0 m P y).2 = true := by rw [nd_r hy h]; exact ⟨rfl, rfl⟩
/-- f takes nothing of a refused text -/
def stk (f : pd_P → pd_P) : Prop := ∀ P, pR P = true → pA (f P) = pA P ∧ pR (f P) = true
theorem sv_0 : sv 0 < 0 := by decide
theorem unit_stk {dp : Nat} {e u : pd_P → Bool × pd_P} : stk (fun P => (unitOf I0 m dp e u P).2) := by
  intro P h
  have : unitOf I0 m dp e u P = (false, rfs P) := by
    unfold unitOf
    rw [pk_r h, if_pos sv_0, if_neg (by decide), if_neg (by decide), if_neg (by decide), if_neg (by decide)]
  show pA (unitOf I0 m dp e u P).2 = _ ∧ pR (unitOf I0 m dp e u P).2 = _
  rw [this]
  exact ⟨rfl, rfl⟩
theorem termL_r {u : pd_P → Bool × pd_P} {f : Nat} {r : Bool} (h : pR P = true) : termL I0 m u f r P = (r, P) := by
  cases f with
  | zero => rfl
  | succ f => unfold termL; rw [pk_r h, if_neg (by decide), if_neg (by decide), if_neg (by decide)]
theorem sumL_r {u : pd_P → Bool × pd_P} {f : Nat} {r : Bool} (h : pR P = true) : sumL I0 m u f r P = (r, P) := by
  cases f with
  | zero => rfl
  | succ f => unfold sumL; rw [pk_r h, if_neg (by decide), if_neg (by decide)]
theorem cT_stk {u : pd_P → Bool × pd_P} (hu : stk (fun P => (u P).2)) : stk (fun P => (cT I0 m u P).2) := by
  intro P h
  have h2 := hu P h
  show pA (cT I0 m u P).2 = _ ∧ pR (cT I0 m u P).2 = _
  unfold cT
  rw [termL_r h2.2]
  exact h2
theorem cS_stk {u : pd_P → Bool × pd_P} (hu : stk (fun P => (u P).2)) : stk (fun P => (cS I0 m u P).2) := by
  intro P h
  have h2 := cT_stk (I0 := I0) (m := m) hu P h
  show pA (cS I0 m u P).2 = _ ∧ pR (cS I0 m u P).2 = _
  unfold cS
  rw [sumL_r h2.2]
  exact h2
theorem cE_stk {u : pd_P → Bool × pd_P} (hu : stk (fun P => (u P).2)) : stk (fun P => (cE I0 m u P).2) := by
  intro P h
  have h2 := cS_stk (I0 := I0) (m := m) hu P h
  show pA (cE I0 m u P).2 = _ ∧ pR (cE I0 m u P).2 = _
  unfold cE
  rw [pk_r h2.2, if_neg (by decide), if_neg (by decide)]
  exact h2
theorem cU_stk {k : Nat} : stk (fun P => (cU I0 m k P).2) := by
  cases k with
  | zero => exact unit_stk
  | succ k => exact unit_stk
theorem pk_t (h : pR P = false) : pk I0 m P = chA (I0 2) m (pA P) := by
  unfold pk chA
  rw [if_neg (by rw [h]; decide)]
  by_cases k : pA P < m
  · rw [if_neg (by omega), if_pos k]
  · rw [if_pos (by omega), if_neg k]
end EQ1
