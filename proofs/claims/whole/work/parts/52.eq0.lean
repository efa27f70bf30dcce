/-! THE TWO READERS: how the codes of both belong together -/
/-- how many orders of the class one of the reference is, by the kinds on the stack (0 whole, 1 real, 2 a place of the row) -/
def wd (op : Int32) (t : List Nat) : Nat := if op = 3 then 2 else if op = 26 then 2 else if op = 5 then (if t.head? = some 1 then 1 else 0) else 1
def tg (b : Bool) : Nat := cond b 1 0
/-- the kinds behind an order -/
def tyS (op a : Int32) (t : List Nat) : List Nat :=
  if op = 1 then 0 :: t else if op = 2 then tg (isR a) :: t else if op = 3 then 0 :: t.tail else if op = 4 then 2 :: t.tail else if op = 5 then 0 :: t.tail
  else if op = 42 then (if a = 1 then 1 else 0) :: t.tail.tail else if op = 43 then (if a = 1 then 1 else 0) :: t.tail.tail else if op = 45 then (if a = 1 then 1 else 0) :: t.tail.tail
  else if op = 47 then 1 :: t.tail.tail else if op = 37 then 0 :: t.tail.tail else if op = 60 then 0 :: t.tail.tail else if op = 61 then 0 :: t.tail.tail else []
/-- the class's place, and the kinds, at a place of the reference's code -/
def ft (c a : Nat → Int32) : Nat → Nat × List Nat
  | 0 => (0, [])
  | i + 1 => ((ft c a i).1 + wd (c i) (ft c a i).2, tyS (c i) (a i) (ft c a i).2)
/-- an order of an expression -/
def eop (x : Int32) : Prop := x < 20 ∨ 30 < x
/-- one that isn't over -/
def nE (x : Int32) : Prop := x ≠ 29 ∧ x ≠ 30
/-- two numbers and an order between them: mark, whether real, kinds of right and left, the class's order -/
def bo (c a : Int32) (s t : Nat) (o : Int32) : Prop :=
  (c = 42 ∧ ((s = 0 ∧ t = 0 ∧ a = 0 ∧ o = 9) ∨ (a = 1 ∧ o = 12))) ∨ (c = 43 ∧ ((s = 0 ∧ t = 0 ∧ a = 0 ∧ o = 7) ∨ (a = 1 ∧ o = 10))) ∨ (c = 45 ∧ ((s = 0 ∧ t = 0 ∧ a = 0 ∧ o = 8) ∨ (a = 1 ∧ o = 11)))
  ∨ (c = 47 ∧ a = 1 ∧ o = 13) ∨ (c = 37 ∧ s = 0 ∧ t = 0 ∧ o = 14) ∨ (c = 60 ∧ o = 15) ∨ (c = 61 ∧ o = 16)
/-- the class's orders that belong to one of the reference -/
def Cn (c : Nat → Int32) (F : Nat → Nat × List Nat) (oC vC : Nat → Int32) (H i p : Nat) (iz1 : Int32) (iz2 : Int32) (iz3 : Int32) (iz4 : List Nat) : Prop := ∀ iC : Int32 → Int32 → Int32 → List Nat → Prop, (∀ (a x : Int32) (t : List Nat), oC p = 2 → vC p = a → iC 1 a x t) → (∀ (k : Nat) (x : Int32) (t : List Nat), k < 7 → oC p = 3 → vC p = Int32.ofNat k → iC 2 (Int32.ofNat k) x t) → (∀ (a x : Int32) (t : List Nat), oC p = 4 → oC (p + 1) = 5 → iC 3 a x (0 :: t)) → (∀ (a x : Int32), oC p = 4 → iC 4 a x [0]) → (∀ (a x : Int32) (t : List Nat), oC p = 6 → iC 5 a x (1 :: t)) → (∀ (a x : Int32) (t : List Nat), iC 5 a x (0 :: t)) → (∀ (y a x : Int32) (s u : Nat) (t : List Nat), s ≤ 1 → u ≤ 1 → bo y a s u (oC p) → iC y a x (s :: u :: t)) → (∀ (k : Nat) (x : Int32) (t : Nat), k < 7 → t ≤ 1 → (isR (Int32.ofNat k) = false → t = 0) → oC p = 17 → vC p = Int32.ofNat k → iC 20 (Int32.ofNat k) x [t]) → (∀ (a x : Int32), oC p = 18 → iC 21 a x [0, 2]) → (∀ (a x : Int32) (t : Nat), t ≤ 1 → oC p = 20 → iC 22 a x [t]) → (∀ (k : Nat) (x : Int32), k < 2 → oC p = 21 → vC p = Int32.ofNat k → iC 23 (Int32.ofNat k) x []) → (∀ (k : Nat) (x : Int32), k < 2 → oC p = 22 → vC p = Int32.ofNat k → iC 24 (Int32.ofNat k) x []) → (∀ (k : Nat) (x : Int32), k < 4 → oC p = 23 → vC p = Int32.ofNat k → iC 25 (Int32.ofNat k) x []) → (∀ (A X : Nat), oC p = 24 → oC (p + 1) = 1 → vC p = Int32.ofNat (F A).1 → vC (p + 1) = Int32.ofNat (F X).1 → (F A).2 = [] → (F X).2 = [] → A < H → X ≤ H → i + 1 < H → nE (c A) → nE (c (i + 1)) → (F (i + 1)).2 = [] → iC 26 (Int32.ofNat A) (Int32.ofNat X) []) → (∀ (A : Nat) (x : Int32), oC p = 19 → vC p = Int32.ofNat (F A).1 → (F A).2 = [] → A ≤ H → iC 28 (Int32.ofNat A) x [0]) → (∀ (A : Nat) (x : Int32), oC p = 1 → vC p = Int32.ofNat (F A).1 → (F A).2 = [] → A < H → nE (c A) → iC 29 (Int32.ofNat A) x []) → (∀ (a x : Int32), oC p = 0 → iC 30 a x []) → iC iz1 iz2 iz3 iz4
theorem Cn.num {c : Nat → Int32} {F : Nat → Nat × List Nat} {oC vC : Nat → Int32} {H i p : Nat} {a x : Int32} {t : List Nat} (ih0 : oC p = 2) (ih1 : vC p = a) : Cn c F oC vC H i p 1 a x t := fun iC ik0 ik1 ik2 ik3 ik4 ik5 ik6 ik7 ik8 ik9 ik10 ik11 ik12 ik13 ik14 ik15 ik16 => ik0 a x t ih0 ih1
theorem Cn.ld {c : Nat → Int32} {F : Nat → Nat × List Nat} {oC vC : Nat → Int32} {H i p : Nat} {k : Nat} {x : Int32} {t : List Nat} (ih0 : k < 7) (ih1 : oC p = 3) (ih2 : vC p = Int32.ofNat k) : Cn c F oC vC H i p 2 (Int32.ofNat k) x t := fun iC ik0 ik1 ik2 ik3 ik4 ik5 ik6 ik7 ik8 ik9 ik10 ik11 ik12 ik13 ik14 ik15 ik16 => ik1 k x t ih0 ih1 ih2
theorem Cn.rw {c : Nat → Int32} {F : Nat → Nat × List Nat} {oC vC : Nat → Int32} {H i p : Nat} {a x : Int32} {t : List Nat} (ih0 : oC p = 4) (ih1 : oC (p + 1) = 5) : Cn c F oC vC H i p 3 a x (0 :: t) := fun iC ik0 ik1 ik2 ik3 ik4 ik5 ik6 ik7 ik8 ik9 ik10 ik11 ik12 ik13 ik14 ik15 ik16 => ik2 a x t ih0 ih1
theorem Cn.rp {c : Nat → Int32} {F : Nat → Nat × List Nat} {oC vC : Nat → Int32} {H i p : Nat} {a x : Int32} (ih0 : oC p = 4) : Cn c F oC vC H i p 4 a x [0] := fun iC ik0 ik1 ik2 ik3 ik4 ik5 ik6 ik7 ik8 ik9 ik10 ik11 ik12 ik13 ik14 ik15 ik16 => ik3 a x ih0
theorem Cn.wh1 {c : Nat → Int32} {F : Nat → Nat × List Nat} {oC vC : Nat → Int32} {H i p : Nat} {a x : Int32} {t : List Nat} (ih0 : oC p = 6) : Cn c F oC vC H i p 5 a x (1 :: t) := fun iC ik0 ik1 ik2 ik3 ik4 ik5 ik6 ik7 ik8 ik9 ik10 ik11 ik12 ik13 ik14 ik15 ik16 => ik4 a x t ih0
theorem Cn.wh0 {c : Nat → Int32} {F : Nat → Nat × List Nat} {oC vC : Nat → Int32} {H i p : Nat} {a x : Int32} {t : List Nat}  : Cn c F oC vC H i p 5 a x (0 :: t) := fun iC ik0 ik1 ik2 ik3 ik4 ik5 ik6 ik7 ik8 ik9 ik10 ik11 ik12 ik13 ik14 ik15 ik16 => ik5 a x t
theorem Cn.bi {c : Nat → Int32} {F : Nat → Nat × List Nat} {oC vC : Nat → Int32} {H i p : Nat} {y a x : Int32} {s u : Nat} {t : List Nat} (ih0 : s ≤ 1) (ih1 : u ≤ 1) (ih2 : bo y a s u (oC p)) : Cn c F oC vC H i p y a x (s :: u :: t) := fun iC ik0 ik1 ik2 ik3 ik4 ik5 ik6 ik7 ik8 ik9 ik10 ik11 ik12 ik13 ik14 ik15 ik16 => ik6 y a x s u t ih0 ih1 ih2
theorem Cn.set {c : Nat → Int32} {F : Nat → Nat × List Nat} {oC vC : Nat → Int32} {H i p : Nat} {k : Nat} {x : Int32} {t : Nat} (ih0 : k < 7) (ih1 : t ≤ 1) (ih2 : (isR (Int32.ofNat k) = false → t = 0)) (ih3 : oC p = 17) (ih4 : vC p = Int32.ofNat k) : Cn c F oC vC H i p 20 (Int32.ofNat k) x [t] := fun iC ik0 ik1 ik2 ik3 ik4 ik5 ik6 ik7 ik8 ik9 ik10 ik11 ik12 ik13 ik14 ik15 ik16 => ik7 k x t ih0 ih1 ih2 ih3 ih4
theorem Cn.setr {c : Nat → Int32} {F : Nat → Nat × List Nat} {oC vC : Nat → Int32} {H i p : Nat} {a x : Int32} (ih0 : oC p = 18) : Cn c F oC vC H i p 21 a x [0, 2] := fun iC ik0 ik1 ik2 ik3 ik4 ik5 ik6 ik7 ik8 ik9 ik10 ik11 ik12 ik13 ik14 ik15 ik16 => ik8 a x ih0
theorem Cn.wr {c : Nat → Int32} {F : Nat → Nat × List Nat} {oC vC : Nat → Int32} {H i p : Nat} {a x : Int32} {t : Nat} (ih0 : t ≤ 1) (ih1 : oC p = 20) : Cn c F oC vC H i p 22 a x [t] := fun iC ik0 ik1 ik2 ik3 ik4 ik5 ik6 ik7 ik8 ik9 ik10 ik11 ik12 ik13 ik14 ik15 ik16 => ik9 a x t ih0 ih1
theorem Cn.wa {c : Nat → Int32} {F : Nat → Nat × List Nat} {oC vC : Nat → Int32} {H i p : Nat} {k : Nat} {x : Int32} (ih0 : k < 2) (ih1 : oC p = 21) (ih2 : vC p = Int32.ofNat k) : Cn c F oC vC H i p 23 (Int32.ofNat k) x [] := fun iC ik0 ik1 ik2 ik3 ik4 ik5 ik6 ik7 ik8 ik9 ik10 ik11 ik12 ik13 ik14 ik15 ik16 => ik10 k x ih0 ih1 ih2
theorem Cn.sg {c : Nat → Int32} {F : Nat → Nat × List Nat} {oC vC : Nat → Int32} {H i p : Nat} {k : Nat} {x : Int32} (ih0 : k < 2) (ih1 : oC p = 22) (ih2 : vC p = Int32.ofNat k) : Cn c F oC vC H i p 24 (Int32.ofNat k) x [] := fun iC ik0 ik1 ik2 ik3 ik4 ik5 ik6 ik7 ik8 ik9 ik10 ik11 ik12 ik13 ik14 ik15 ik16 => ik11 k x ih0 ih1 ih2
theorem Cn.ca {c : Nat → Int32} {F : Nat → Nat × List Nat} {oC vC : Nat → Int32} {H i p : Nat} {k : Nat} {x : Int32} (ih0 : k < 4) (ih1 : oC p = 23) (ih2 : vC p = Int32.ofNat k) : Cn c F oC vC H i p 25 (Int32.ofNat k) x [] := fun iC ik0 ik1 ik2 ik3 ik4 ik5 ik6 ik7 ik8 ik9 ik10 ik11 ik12 ik13 ik14 ik15 ik16 => ik12 k x ih0 ih1 ih2
theorem Cn.bth {c : Nat → Int32} {F : Nat → Nat × List Nat} {oC vC : Nat → Int32} {H i p : Nat} {A X : Nat} (ih0 : oC p = 24) (ih1 : oC (p + 1) = 1) (ih2 : vC p = Int32.ofNat (F A).1) (ih3 : vC (p + 1) = Int32.ofNat (F X).1) (ih4 : (F A).2 = []) (ih5 : (F X).2 = []) (ih6 : A < H) (ih7 : X ≤ H) (ih8 : i + 1 < H) (ih9 : nE (c A)) (ih10 : nE (c (i + 1))) (ih11 : (F (i + 1)).2 = []) : Cn c F oC vC H i p 26 (Int32.ofNat A) (Int32.ofNat X) [] := fun iC ik0 ik1 ik2 ik3 ik4 ik5 ik6 ik7 ik8 ik9 ik10 ik11 ik12 ik13 ik14 ik15 ik16 => ik13 A X ih0 ih1 ih2 ih3 ih4 ih5 ih6 ih7 ih8 ih9 ih10 ih11
theorem Cn.te {c : Nat → Int32} {F : Nat → Nat × List Nat} {oC vC : Nat → Int32} {H i p : Nat} {A : Nat} {x : Int32} (ih0 : oC p = 19) (ih1 : vC p = Int32.ofNat (F A).1) (ih2 : (F A).2 = []) (ih3 : A ≤ H) : Cn c F oC vC H i p 28 (Int32.ofNat A) x [0] := fun iC ik0 ik1 ik2 ik3 ik4 ik5 ik6 ik7 ik8 ik9 ik10 ik11 ik12 ik13 ik14 ik15 ik16 => ik14 A x ih0 ih1 ih2 ih3
theorem Cn.ju {c : Nat → Int32} {F : Nat → Nat × List Nat} {oC vC : Nat → Int32} {H i p : Nat} {A : Nat} {x : Int32} (ih0 : oC p = 1) (ih1 : vC p = Int32.ofNat (F A).1) (ih2 : (F A).2 = []) (ih3 : A < H) (ih4 : nE (c A)) : Cn c F oC vC H i p 29 (Int32.ofNat A) x [] := fun iC ik0 ik1 ik2 ik3 ik4 ik5 ik6 ik7 ik8 ik9 ik10 ik11 ik12 ik13 ik14 ik15 ik16 => ik15 A x ih0 ih1 ih2 ih3 ih4
theorem Cn.en {c : Nat → Int32} {F : Nat → Nat × List Nat} {oC vC : Nat → Int32} {H i p : Nat} {a x : Int32} (ih0 : oC p = 0) : Cn c F oC vC H i p 30 a x [] := fun iC ik0 ik1 ik2 ik3 ik4 ik5 ik6 ik7 ik8 ik9 ik10 ik11 ik12 ik13 ik14 ik15 ik16 => ik16 a x ih0
theorem Cn.rc {c : Nat → Int32} {F : Nat → Nat × List Nat} {oC vC : Nat → Int32} {H i p : Nat} {motive : (iz1 : Int32) → (iz2 : Int32) → (iz3 : Int32) → (iz4 : List Nat) → Cn c F oC vC H i p iz1 iz2 iz3 iz4 → Prop} (num : ∀ {a x : Int32} {t : List Nat} (ih0 : oC p = 2) (ih1 : vC p = a), motive 1 a x t (Cn.num (a := a) (x := x) (t := t) ih0 ih1)) (ld : ∀ {k : Nat} {x : Int32} {t : List Nat} (ih0 : k < 7) (ih1 : oC p = 3) (ih2 : vC p = Int32.ofNat k), motive 2 (Int32.ofNat k) x t (Cn.ld (k := k) (x := x) (t := t) ih0 ih1 ih2)) (rw : ∀ {a x : Int32} {t : List Nat} (ih0 : oC p = 4) (ih1 : oC (p + 1) = 5), motive 3 a x (0 :: t) (Cn.rw (a := a) (x := x) (t := t) ih0 ih1)) (rp : ∀ {a x : Int32} (ih0 : oC p = 4), motive 4 a x [0] (Cn.rp (a := a) (x := x) ih0)) (wh1 : ∀ {a x : Int32} {t : List Nat} (ih0 : oC p = 6), motive 5 a x (1 :: t) (Cn.wh1 (a := a) (x := x) (t := t) ih0)) (wh0 : ∀ {a x : Int32} {t : List Nat}, motive 5 a x (0 :: t) (Cn.wh0 (a := a) (x := x) (t := t))) (bi : ∀ {y a x : Int32} {s u : Nat} {t : List Nat} (ih0 : s ≤ 1) (ih1 : u ≤ 1) (ih2 : bo y a s u (oC p)), motive y a x (s :: u :: t) (Cn.bi (y := y) (a := a) (x := x) (s := s) (u := u) (t := t) ih0 ih1 ih2)) (set : ∀ {k : Nat} {x : Int32} {t : Nat} (ih0 : k < 7) (ih1 : t ≤ 1) (ih2 : (isR (Int32.ofNat k) = false → t = 0)) (ih3 : oC p = 17) (ih4 : vC p = Int32.ofNat k), motive 20 (Int32.ofNat k) x [t] (Cn.set (k := k) (x := x) (t := t) ih0 ih1 ih2 ih3 ih4)) (setr : ∀ {a x : Int32} (ih0 : oC p = 18), motive 21 a x [0, 2] (Cn.setr (a := a) (x := x) ih0)) (wr : ∀ {a x : Int32} {t : Nat} (ih0 : t ≤ 1) (ih1 : oC p = 20), motive 22 a x [t] (Cn.wr (a := a) (x := x) (t := t) ih0 ih1)) (wa : ∀ {k : Nat} {x : Int32} (ih0 : k < 2) (ih1 : oC p = 21) (ih2 : vC p = Int32.ofNat k), motive 23 (Int32.ofNat k) x [] (Cn.wa (k := k) (x := x) ih0 ih1 ih2)) (sg : ∀ {k : Nat} {x : Int32} (ih0 : k < 2) (ih1 : oC p = 22) (ih2 : vC p = Int32.ofNat k), motive 24 (Int32.ofNat k) x [] (Cn.sg (k := k) (x := x) ih0 ih1 ih2)) (ca : ∀ {k : Nat} {x : Int32} (ih0 : k < 4) (ih1 : oC p = 23) (ih2 : vC p = Int32.ofNat k), motive 25 (Int32.ofNat k) x [] (Cn.ca (k := k) (x := x) ih0 ih1 ih2)) (bth : ∀ {A X : Nat} (ih0 : oC p = 24) (ih1 : oC (p + 1) = 1) (ih2 : vC p = Int32.ofNat (F A).1) (ih3 : vC (p + 1) = Int32.ofNat (F X).1) (ih4 : (F A).2 = []) (ih5 : (F X).2 = []) (ih6 : A < H) (ih7 : X ≤ H) (ih8 : i + 1 < H) (ih9 : nE (c A)) (ih10 : nE (c (i + 1))) (ih11 : (F (i + 1)).2 = []), motive 26 (Int32.ofNat A) (Int32.ofNat X) [] (Cn.bth (A := A) (X := X) ih0 ih1 ih2 ih3 ih4 ih5 ih6 ih7 ih8 ih9 ih10 ih11)) (te : ∀ {A : Nat} {x : Int32} (ih0 : oC p = 19) (ih1 : vC p = Int32.ofNat (F A).1) (ih2 : (F A).2 = []) (ih3 : A ≤ H), motive 28 (Int32.ofNat A) x [0] (Cn.te (A := A) (x := x) ih0 ih1 ih2 ih3)) (ju : ∀ {A : Nat} {x : Int32} (ih0 : oC p = 1) (ih1 : vC p = Int32.ofNat (F A).1) (ih2 : (F A).2 = []) (ih3 : A < H) (ih4 : nE (c A)), motive 29 (Int32.ofNat A) x [] (Cn.ju (A := A) (x := x) ih0 ih1 ih2 ih3 ih4)) (en : ∀ {a x : Int32} (ih0 : oC p = 0), motive 30 a x [] (Cn.en (a := a) (x := x) ih0)) {iz1 : Int32} {iz2 : Int32} {iz3 : Int32} {iz4 : List Nat} (ih : Cn c F oC vC H i p iz1 iz2 iz3 iz4) : motive iz1 iz2 iz3 iz4 ih := by
  obtain ⟨_, im⟩ := ih (fun iz1 iz2 iz3 iz4 => ∃ ih : Cn c F oC vC H i p iz1 iz2 iz3 iz4, motive iz1 iz2 iz3 iz4 ih) (fun a x t ih0 ih1 => ⟨(Cn.num (a := a) (x := x) (t := t) ih0 ih1), @num a x t ih0 ih1⟩) (fun k x t ih0 ih1 ih2 => ⟨(Cn.ld (k := k) (x := x) (t := t) ih0 ih1 ih2), @ld k x t ih0 ih1 ih2⟩) (fun a x t ih0 ih1 => ⟨(Cn.rw (a := a) (x := x) (t := t) ih0 ih1), @rw a x t ih0 ih1⟩) (fun a x ih0 => ⟨(Cn.rp (a := a) (x := x) ih0), @rp a x ih0⟩) (fun a x t ih0 => ⟨(Cn.wh1 (a := a) (x := x) (t := t) ih0), @wh1 a x t ih0⟩) (fun a x t => ⟨(Cn.wh0 (a := a) (x := x) (t := t)), @wh0 a x t⟩) (fun y a x s u t ih0 ih1 ih2 => ⟨(Cn.bi (y := y) (a := a) (x := x) (s := s) (u := u) (t := t) ih0 ih1 ih2), @bi y a x s u t ih0 ih1 ih2⟩) (fun k x t ih0 ih1 ih2 ih3 ih4 => ⟨(Cn.set (k := k) (x := x) (t := t) ih0 ih1 ih2 ih3 ih4), @set k x t ih0 ih1 ih2 ih3 ih4⟩) (fun a x ih0 => ⟨(Cn.setr (a := a) (x := x) ih0), @setr a x ih0⟩) (fun a x t ih0 ih1 => ⟨(Cn.wr (a := a) (x := x) (t := t) ih0 ih1), @wr a x t ih0 ih1⟩) (fun k x ih0 ih1 ih2 => ⟨(Cn.wa (k := k) (x := x) ih0 ih1 ih2), @wa k x ih0 ih1 ih2⟩) (fun k x ih0 ih1 ih2 => ⟨(Cn.sg (k := k) (x := x) ih0 ih1 ih2), @sg k x ih0 ih1 ih2⟩) (fun k x ih0 ih1 ih2 => ⟨(Cn.ca (k := k) (x := x) ih0 ih1 ih2), @ca k x ih0 ih1 ih2⟩) (fun A X ih0 ih1 ih2 ih3 ih4 ih5 ih6 ih7 ih8 ih9 ih10 ih11 => ⟨(Cn.bth (A := A) (X := X) ih0 ih1 ih2 ih3 ih4 ih5 ih6 ih7 ih8 ih9 ih10 ih11), @bth A X ih0 ih1 ih2 ih3 ih4 ih5 ih6 ih7 ih8 ih9 ih10 ih11⟩) (fun A x ih0 ih1 ih2 ih3 => ⟨(Cn.te (A := A) (x := x) ih0 ih1 ih2 ih3), @te A x ih0 ih1 ih2 ih3⟩) (fun A x ih0 ih1 ih2 ih3 ih4 => ⟨(Cn.ju (A := A) (x := x) ih0 ih1 ih2 ih3 ih4), @ju A x ih0 ih1 ih2 ih3 ih4⟩) (fun a x ih0 => ⟨(Cn.en (a := a) (x := x) ih0), @en a x ih0⟩)
  exact im
/-- all of lo .. hi - 1 -/
def Cg (c a x oC vC : Nat → Int32) (H lo hi : Nat) : Prop := ∀ i, lo ≤ i → i < hi → Cn c (ft c a) oC vC H i (ft c a i).1 (c i) (a i) (x i) (ft c a i).2
section EQ0
variable {c a x oC vC c' a' x' oC' vC' : Nat → Int32} {H H' i p lo hi : Nat}
theorem tyS26 {ar : Int32} {t : List Nat} : tyS 26 ar t = [] := by
  unfold tyS
  rw [if_neg (by decide), if_neg (by decide), if_neg (by decide), if_neg (by decide), if_neg (by decide), if_neg (by decide), if_neg (by decide), if_neg (by decide), if_neg (by decide), if_neg (by decide), if_neg (by decide), if_neg (by decide)]
theorem tyS28 {ar : Int32} {t : List Nat} : tyS 28 ar t = [] := by
  unfold tyS
  rw [if_neg (by decide), if_neg (by decide), if_neg (by decide), if_neg (by decide), if_neg (by decide), if_neg (by decide), if_neg (by decide), if_neg (by decide), if_neg (by decide), if_neg (by decide), if_neg (by decide), if_neg (by decide)]
theorem ft_congr : ∀ (n : Nat), (∀ j, j < n → c' j = c j ∧ (a' j = a j ∨ c j = 26 ∨ c j = 28)) → ∀ i, i ≤ n → ft c' a' i = ft c a i := by
  intro n h i
  induction i with
  | zero => intro _; rfl
  | succ i ih =>
    intro hi
    obtain ⟨h1, h2⟩ := h i (by omega)
    unfold ft
    rw [ih (by omega), h1]
    rcases h2 with h2 | h2 | h2
    · rw [h2]
    · rw [h2, tyS26, tyS26]
    · rw [h2, tyS28, tyS28]
theorem Cn.congr {F F' : Nat → Nat × List Nat} {op ar xr : Int32} {t : List Nat} (h : Cn c F oC vC H i p op ar xr t) (hc : ∀ j, j < H → c' j = c j) (hF : ∀ j, j ≤ H → F' j = F j) (hp : ∀ z, p ≤ z → z < p + wd op t → oC' z = oC z ∧ vC' z = vC z) (hH : H ≤ H') : Cn c' F' oC' vC' H' i p op ar xr t := by
  induction h using Cn.rc with
  | num h1 h2 => exact .num (by rw [(hp p (by omega) (by simp [wd])).1, h1]) (by rw [(hp p (by omega) (by simp [wd])).2, h2])
  | ld h0 h1 h2 => exact .ld h0 (by rw [(hp p (by omega) (by simp [wd])).1, h1]) (by rw [(hp p (by omega) (by simp [wd])).2, h2])
  | rw h1 h2 => exact .rw (by rw [(hp p (by omega) (by simp [wd])).1, h1]) (by rw [(hp (p + 1) (by omega) (by simp [wd])).1, h2])
  | rp h1 => exact .rp (by rw [(hp p (by omega) (by simp [wd])).1, h1])
  | wh1 h1 => exact .wh1 (by rw [(hp p (by omega) (by simp [wd])).1, h1])
  | wh0 => exact .wh0
  | bi h1 h2 h3 =>
    refine .bi h1 h2 ?_
    rw [(hp p (by omega) ?_).1]
    · exact h3
    · rcases h3 with h | h | h | h | h | h | h <;> (obtain ⟨rfl, _⟩ := h; simp [wd])
  | set h0 h1 h2 h3 h4 => exact .set h0 h1 h2 (by rw [(hp p (by omega) (by simp [wd])).1, h3]) (by rw [(hp p (by omega) (by simp [wd])).2, h4])
  | setr h1 => exact .setr (by rw [(hp p (by omega) (by simp [wd])).1, h1])
  | wr h0 h1 => exact .wr h0 (by rw [(hp p (by omega) (by simp [wd])).1, h1])
  | wa h0 h1 h2 => exact .wa h0 (by rw [(hp p (by omega) (by simp [wd])).1, h1]) (by rw [(hp p (by omega) (by simp [wd])).2, h2])
  | sg h0 h1 h2 => exact .sg h0 (by rw [(hp p (by omega) (by simp [wd])).1, h1]) (by rw [(hp p (by omega) (by simp [wd])).2, h2])
  | ca h0 h1 h2 => exact .ca h0 (by rw [(hp p (by omega) (by simp [wd])).1, h1]) (by rw [(hp p (by omega) (by simp [wd])).2, h2])
  | @bth A X h1 h2 h3 h4 h5 h6 h7 h8 h9 h10 h11 h12 =>
    refine .bth (by rw [(hp p (by omega) (by simp [wd])).1, h1]) (by rw [(hp (p + 1) (by omega) (by simp [wd])).1, h2]) ?_ ?_ ?_ ?_ (by omega) (by omega) (by omega) ?_ ?_ ?_
    · rw [(hp p (by omega) (by simp [wd])).2, h3, hF A (by omega)]
    · rw [(hp (p + 1) (by omega) (by simp [wd])).2, h4, hF X (by omega)]
    · rw [hF A (by omega), h5]
    · rw [hF X (by omega), h6]
    · rw [hc A h7]; exact h10
    · rw [hc (i + 1) h9]; exact h11
    · rw [hF (i + 1) (by omega), h12]
  | @te A x h1 h2 h3 h4 => exact .te (by rw [(hp p (by omega) (by simp [wd])).1, h1]) (by rw [(hp p (by omega) (by simp [wd])).2, h2, hF A h4]) (by rw [hF A h4, h3]) (by omega)
  | @ju A x h1 h2 h3 h4 h5 => exact .ju (by rw [(hp p (by omega) (by simp [wd])).1, h1]) (by rw [(hp p (by omega) (by simp [wd])).2, h2, hF A (by omega)]) (by rw [hF A (by omega), h3]) (by omega) (by rw [hc A h4]; exact h5)
  | en h1 => exact .en (by rw [(hp p (by omega) (by simp [wd])).1, h1])
theorem ft_le : ∀ {i j : Nat}, i ≤ j → (ft c a i).1 ≤ (ft c a j).1 := by
  intro i j h
  induction h with
  | refl => exact Nat.le_refl _
  | step _ ih => exact Nat.le_trans ih (Nat.le_add_right _ _)
/-- a piece of code stays as it is -/
theorem Cg.congr (h : Cg c a x oC vC H lo hi) (hh : hi ≤ H) (hc : ∀ j, j < H → c' j = c j) (ha : ∀ j, j < H → a' j = a j ∨ c j = 26 ∨ c j = 28) (hax : ∀ j, lo ≤ j → j < hi → a' j = a j ∧ x' j = x j) (hp : ∀ z, (ft c a lo).1 ≤ z → z < (ft c a hi).1 → oC' z = oC z ∧ vC' z = vC z) (hH : H ≤ H') : Cg c' a' x' oC' vC' H' lo hi := by
  have hF : ∀ j, j ≤ H → ft c' a' j = ft c a j := ft_congr H (fun j hj => ⟨hc j hj, ha j hj⟩)
  intro i h1 h2
  rw [hF i (by omega), hc i (by omega), (hax i h1 h2).1, (hax i h1 h2).2]
  refine (h i h1 h2).congr hc hF (fun z z1 z2 => hp z (Nat.le_trans (ft_le h1) z1) (Nat.lt_of_lt_of_le z2 ?_)) hH
  show (ft c a (i + 1)).1 ≤ _
  exact ft_le h2
theorem Cg.app (h1 : Cg c a x oC vC H lo i) (h2 : Cg c a x oC vC H i hi) : Cg c a x oC vC H lo hi := by
  intro j k1 k2
  by_cases h : j < i
  · exact h1 j k1 h
  · exact h2 j (by omega) k2
theorem Cg.one (h : Cn c (ft c a) oC vC H lo (ft c a lo).1 (c lo) (a lo) (x lo) (ft c a lo).2) : Cg c a x oC vC H lo (lo + 1) := by
  intro j k1 k2
  have e : j = lo := by omega
  subst e
  exact h
theorem Cg.nil : Cg c a x oC vC H lo lo := fun j k1 k2 => by omega
end EQ0
/-! the class's reader: what its small steps leave -/
section EQ1
variable {I0 : pd_I} {m : Nat} {P : pd_P} {o v : Int32} {b : Bool} {k : Nat}
theorem add_lt (h : pN P < 49) : add P o v = ⟨(P.1.1, P.1.2.1, P.1.2.2.1, P.1.2.2.2.1, pN P + 1, pd_up (pO P) (pN P) o, pd_up (pV P) (pN P) v), P.2.1, by show pN P + 1 ≤ 49; omega⟩ := by unfold add; rw [dif_pos h]
theorem pA_add : pA (add P o v) = pA P := by unfold add; split <;> rfl
theorem pR_add : pR (add P o v) = pR P := by unfold add; split <;> rfl
theorem pW_add : pW (add P o v) = pW P := by unfold add; split <;> rfl
theorem pS_add : pS (add P o v) = pS P := by unfold add; split <;> rfl
theorem pN_add (h : pN P < 49) : pN (add P o v) = pN P + 1 := by rw [add_lt h]; rfl
theorem pO_add (h : pN P < 49) : pO (add P o v) = pd_up (pO P) (pN P) o := by rw [add_lt h]; rfl
theorem pV_add (h : pN P < 49) : pV (add P o v) = pd_up (pV P) (pN P) v := by rw [add_lt h]; rfl
theorem pA_ni : pA (ni P b) = pA P := by unfold ni; split <;> rfl
theorem pR_ni : pR (ni P b) = pR P := by unfold ni; split <;> rfl
theorem pW_ni : pW (ni P b) = (pW P || b) := by
  unfold ni
  cases b
  · rw [if_neg (by decide), Bool.or_false]
  · rw [if_pos rfl, Bool.or_true]; rfl
theorem pS_ni : pS (ni P b) = pS P := by unfold ni; split <;> rfl
theorem pN_ni : pN (ni P b) = pN P := by unfold ni; split <;> rfl
theorem pO_ni : pO (ni P b) = pO P := by unfold ni; split <;> rfl
theorem pV_ni : pV (ni P b) = pV P := by unfold ni; split <;> rfl
theorem pA_pt : pA (ptH P k) = pA P := by unfold ptH; split <;> rfl
theorem pR_pt : pR (ptH P k) = pR P := by unfold ptH; split <;> rfl
theorem pW_pt : pW (ptH P k) = pW P := by unfold ptH; split <;> rfl
theorem pS_pt : pS (ptH P k) = pS P := by unfold ptH; split <;> rfl
theorem pN_pt : pN (ptH P k) = pN P := by unfold ptH; split <;> rfl
theorem pO_pt : pO (ptH P k) = pO P := by unfold ptH; split <;> rfl
theorem pV_pt (h : k < 49) : pV (ptH P k) = pd_up (pV P) k (Int32.ofNat (pN P)) := by unfold ptH; rw [if_pos h]; rfl
theorem pA_adv (h : pA P < 48) : pA (adv P) = pA P + 1 := by unfold adv; rw [dif_pos h]; rfl
theorem pR_adv : pR (adv P) = pR P := by unfold adv; split <;> rfl
theorem pW_adv : pW (adv P) = pW P := by unfold adv; split <;> rfl
theorem pS_adv : pS (adv P) = pS P := by unfold adv; split <;> rfl
theorem pN_adv : pN (adv P) = pN P := by unfold adv; split <;> rfl
theorem pO_adv : pO (adv P) = pO P := by unfold adv; split <;> rfl
theorem pV_adv : pV (adv P) = pV P := by unfold adv; split <;> rfl
theorem pA_rfs : pA (rfs P) = pA P := rfl
theorem pR_rfs : pR (rfs P) = true := rfl
/-- refused: nothing more is taken -/
theorem pk_r (h : pR P = true) : pk I0 m P = 0 := by unfold pk; rw [if_pos h]
theorem nd_r {y : Int32} (hy : y ≠ 0) (h : pR P = true) : nd I0 m P y = (false, rfs P) := by unfold nd; rw [pk_r h, if_neg (fun h => hy h.symm)]
theorem nd_2 {y : Int32} (hy : y ≠ 0) (h : pR P = true) : pA (nd I0 m P y).2 = pA P ∧ pR (nd I0 m P y).2 = true := by rw [nd_r hy h]; exact ⟨rfl, rfl⟩
/-- f takes nothing of a refused text -/
def stk (f : pd_P → pd_P) : Prop := ∀ P, pR P = true → pA (f P) = pA P ∧ pR (f P) = true
theorem sv_0 : sv 0 < 0 := by decide
theorem unit_stk {dp : Nat} {e u : pd_P → Bool × pd_P} : stk (fun P => (unitOf I0 m dp e u P).2) := by
  intro P h
  have : unitOf I0 m dp e u P = (false, rfs P) := by
    unfold unitOf
    rw [pk_r h, if_pos sv_0, if_neg (by decide), if_neg (by decide), if_neg (by decide), if_neg (by decide)]
  show pA (unitOf I0 m dp e u P).2 = _ ∧ pR (unitOf I0 m dp e u P).2 = _
  rw [this]
  exact ⟨rfl, rfl⟩
theorem termL_r {u : pd_P → Bool × pd_P} {f : Nat} {r : Bool} (h : pR P = true) : termL I0 m u f r P = (r, P) := by
  cases f with
  | zero => rfl
  | succ f => unfold termL; rw [pk_r h, if_neg (by decide), if_neg (by decide), if_neg (by decide)]
theorem sumL_r {u : pd_P → Bool × pd_P} {f : Nat} {r : Bool} (h : pR P = true) : sumL I0 m u f r P = (r, P) := by
  cases f with
  | zero => rfl
  | succ f => unfold sumL; rw [pk_r h, if_neg (by decide), if_neg (by decide)]
theorem cT_stk {u : pd_P → Bool × pd_P} (hu : stk (fun P => (u P).2)) : stk (fun P => (cT I0 m u P).2) := by
  intro P h
  have h2 := hu P h
  show pA (cT I0 m u P).2 = _ ∧ pR (cT I0 m u P).2 = _
  unfold cT
  rw [termL_r h2.2]
  exact h2
theorem cS_stk {u : pd_P → Bool × pd_P} (hu : stk (fun P => (u P).2)) : stk (fun P => (cS I0 m u P).2) := by
  intro P h
  have h2 := cT_stk (I0 := I0) (m := m) hu P h
  show pA (cS I0 m u P).2 = _ ∧ pR (cS I0 m u P).2 = _
  unfold cS
  rw [sumL_r h2.2]
  exact h2
theorem cE_stk {u : pd_P → Bool × pd_P} (hu : stk (fun P => (u P).2)) : stk (fun P => (cE I0 m u P).2) := by
  intro P h
  have h2 := cS_stk (I0 := I0) (m := m) hu P h
  show pA (cE I0 m u P).2 = _ ∧ pR (cE I0 m u P).2 = _
  unfold cE
  rw [pk_r h2.2, if_neg (by decide), if_neg (by decide)]
  exact h2
theorem cU_stk {k : Nat} : stk (fun P => (cU I0 m k P).2) := by
  cases k with
  | zero => exact unit_stk
  | succ k => exact unit_stk
theorem pk_t (h : pR P = false) : pk I0 m P = chA (I0 2) m (pA P) := by
  unfold pk chA
  rw [if_neg (by rw [h]; decide)]
  by_cases k : pA P < m
  · rw [if_neg (by omega), if_pos k]
  · rw [if_pos (by omega), if_neg k]
end EQ1
