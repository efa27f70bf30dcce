/-! BOTH RUNS: the code, place by place -/
/-- the code of the four procedures: the class's lengths, the reference's, the class's orders and numbers, the reference's orders, first and second numbers, which are there -/
abbrev Cx := (Nat → Nat) × (Nat → Nat) × (Nat → Nat → Int32) × (Nat → Nat → Int32) × (Nat → Int32) × (Nat → Int32) × (Nat → Int32) × (Nat → Int32)
def cxN (X : Cx) : Nat → Nat := X.1
def cxM (X : Cx) : Nat → Nat := X.2.1
def cxO (X : Cx) : Nat → Nat → Int32 := X.2.2.1
def cxV (X : Cx) : Nat → Nat → Int32 := X.2.2.2.1
def cxc (X : Cx) : Nat → Int32 := X.2.2.2.2.1
def cxa (X : Cx) : Nat → Int32 := X.2.2.2.2.2.1
def cxx (X : Cx) : Nat → Int32 := X.2.2.2.2.2.2.1
def cxt (X : Cx) : Nat → Int32 := X.2.2.2.2.2.2.2
/-- the class's place and the kinds at a place of the reference -/
def FT (X : Cx) (P : Nat) : Nat × List Nat := ft (fun l => cxc X (P / 128 * 128 + l)) (fun l => cxa X (P / 128 * 128 + l)) (P % 128)
def XOk (X : Cx) : Prop := ∀ k, k < 4 → cxt X k ≠ 0 → Cok (fun l => cxc X (k * 128 + l)) (fun l => cxa X (k * 128 + l)) (fun l => cxx X (k * 128 + l)) (cxO X k) (cxV X k) (cxN X k) (cxM X k)
/-- a place where a statement begins, or the end -/
def POk (X : Cx) (P : Nat) : Prop := P / 128 < 4 ∧ cxt X (P / 128) ≠ 0 ∧ P % 128 < cxM X (P / 128) ∧ (FT X P).2 = []
section CX
variable {X : Cx} {P k j : Nat}
theorem FT_kj (hj : j < 128) : FT X (k * 128 + j) = ft (fun l => cxc X (k * 128 + l)) (fun l => cxa X (k * 128 + l)) j := by
  unfold FT
  rw [show (k * 128 + j) / 128 = k by omega, show (k * 128 + j) % 128 = j by omega]
theorem Cn.nl {c oC vC : Nat → Int32} {F : Nat → Nat × List Nat} {H i p : Nat} {y ar xr : Int32} (h : Cn c F oC vC H i p y ar xr []) : y ≠ 5 ∧ ((nE y ∧ oC p ≠ 0 ∧ oC p ≠ 1) ∨ (y = 29 ∧ oC p = 1 ∧ ∃ A, ar = Int32.ofNat A ∧ vC p = Int32.ofNat (F A).1 ∧ (F A).2 = [] ∧ A < H ∧ nE (c A)) ∨ (y = 30 ∧ oC p = 0)) := by
  generalize ht : ([] : List Nat) = t at h
  induction h using Cn.rc with
  | num h1 h2 => exact ⟨by decide, Or.inl ⟨⟨by decide, by decide⟩, by rw [h1]; decide, by rw [h1]; decide⟩⟩
  | ld h1 h2 h3 => exact ⟨by decide, Or.inl ⟨⟨by decide, by decide⟩, by rw [h2]; decide, by rw [h2]; decide⟩⟩
  | rw => cases ht
  | rp => cases ht
  | wh1 => cases ht
  | wh0 => cases ht
  | bi => cases ht
  | set => cases ht
  | setr => cases ht
  | wr => cases ht
  | te => cases ht
  | wa h1 h2 h3 => exact ⟨by decide, Or.inl ⟨⟨by decide, by decide⟩, by rw [h2]; decide, by rw [h2]; decide⟩⟩
  | sg h1 h2 h3 => exact ⟨by decide, Or.inl ⟨⟨by decide, by decide⟩, by rw [h2]; decide, by rw [h2]; decide⟩⟩
  | ca h1 h2 h3 => exact ⟨by decide, Or.inl ⟨⟨by decide, by decide⟩, by rw [h2]; decide, by rw [h2]; decide⟩⟩
  | bth h1 h2 h3 h4 h5 h6 h7 h8 h9 h10 h11 h12 => exact ⟨by decide, Or.inl ⟨⟨by decide, by decide⟩, by rw [h1]; decide, by rw [h1]; decide⟩⟩
  | @ju A x h1 h2 h3 h4 h5 => exact ⟨by decide, Or.inr (Or.inl ⟨rfl, h1, A, rfl, h2, h3, h4, h5⟩)⟩
  | en h1 => exact ⟨by decide, Or.inr (Or.inr ⟨rfl, h1⟩)⟩
/-- the orders that end a step, and those that are over -/
theorem Cn.ed {c oC vC : Nat → Int32} {F : Nat → Nat × List Nat} {H i p : Nat} {y ar xr : Int32} {t : List Nat} (h : Cn c F oC vC H i p y ar xr t) (h1 : ¬ (y < 20)) (h2 : y ≤ 30) :
    (∃ k t0, y = 20 ∧ t = [t0] ∧ k < 7 ∧ t0 ≤ 1 ∧ (isR (Int32.ofNat k) = false → t0 = 0) ∧ oC p = 17 ∧ vC p = Int32.ofNat k ∧ ar = Int32.ofNat k)
    ∨ (y = 21 ∧ t = [0, 2] ∧ oC p = 18)
    ∨ (∃ t0, y = 22 ∧ t = [t0] ∧ t0 ≤ 1 ∧ oC p = 20)
    ∨ (∃ k, y = 23 ∧ t = [] ∧ k < 2 ∧ oC p = 21 ∧ vC p = Int32.ofNat k ∧ ar = Int32.ofNat k)
    ∨ (∃ k, y = 24 ∧ t = [] ∧ k < 2 ∧ oC p = 22 ∧ vC p = Int32.ofNat k ∧ ar = Int32.ofNat k)
    ∨ (∃ k, y = 25 ∧ t = [] ∧ k < 4 ∧ oC p = 23 ∧ vC p = Int32.ofNat k ∧ ar = Int32.ofNat k)
    ∨ (∃ A Z, y = 26 ∧ t = [] ∧ ar = Int32.ofNat A ∧ xr = Int32.ofNat Z ∧ oC p = 24 ∧ oC (p + 1) = 1 ∧ vC p = Int32.ofNat (F A).1 ∧ vC (p + 1) = Int32.ofNat (F Z).1 ∧ (F A).2 = [] ∧ (F Z).2 = [] ∧ A < H ∧ Z ≤ H ∧ i + 1 < H ∧ nE (c A) ∧ nE (c (i + 1)) ∧ (F (i + 1)).2 = [])
    ∨ (∃ A, y = 28 ∧ t = [0] ∧ ar = Int32.ofNat A ∧ oC p = 19 ∧ vC p = Int32.ofNat (F A).1 ∧ (F A).2 = [] ∧ A ≤ H)
    ∨ ((y = 29 ∨ y = 30) ∧ t = []) := by
  induction h using Cn.rc with
  | num => exact absurd (by decide) h1
  | ld => exact absurd (by decide) h1
  | rw => exact absurd (by decide) h1
  | rp => exact absurd (by decide) h1
  | wh1 => exact absurd (by decide) h1
  | wh0 => exact absurd (by decide) h1
  | bi k1 k2 k3 =>
    exfalso
    rcases k3 with ⟨rfl, _⟩ | ⟨rfl, _⟩ | ⟨rfl, _⟩ | ⟨rfl, _⟩ | ⟨rfl, _⟩ | ⟨rfl, _⟩ | ⟨rfl, _⟩ <;> exact absurd h2 (by decide)
  | @set k x t k1 k2 k3 k4 k5 => exact Or.inl ⟨k, t, rfl, rfl, k1, k2, k3, k4, k5, rfl⟩
  | setr k1 => exact Or.inr (Or.inl ⟨rfl, rfl, k1⟩)
  | @wr a x t k1 k2 => exact Or.inr (Or.inr (Or.inl ⟨t, rfl, rfl, k1, k2⟩))
  | @wa k x k1 k2 k3 => exact Or.inr (Or.inr (Or.inr (Or.inl ⟨k, rfl, rfl, k1, k2, k3, rfl⟩)))
  | @sg k x k1 k2 k3 => exact Or.inr (Or.inr (Or.inr (Or.inr (Or.inl ⟨k, rfl, rfl, k1, k2, k3, rfl⟩))))
  | @ca k x k1 k2 k3 => exact Or.inr (Or.inr (Or.inr (Or.inr (Or.inr (Or.inl ⟨k, rfl, rfl, k1, k2, k3, rfl⟩)))))
  | @bth A Z k1 k2 k3 k4 k5 k6 k7 k8 k9 k10 k11 k12 => exact Or.inr (Or.inr (Or.inr (Or.inr (Or.inr (Or.inr (Or.inl ⟨A, Z, rfl, rfl, rfl, rfl, k1, k2, k3, k4, k5, k6, k7, k8, k9, k10, k11, k12⟩))))))
  | @te A x k1 k2 k3 k4 => exact Or.inr (Or.inr (Or.inr (Or.inr (Or.inr (Or.inr (Or.inr (Or.inl ⟨A, rfl, rfl, rfl, k1, k2, k3, k4⟩)))))))
  | ju => exact Or.inr (Or.inr (Or.inr (Or.inr (Or.inr (Or.inr (Or.inr (Or.inr ⟨Or.inl rfl, rfl⟩)))))))
  | en => exact Or.inr (Or.inr (Or.inr (Or.inr (Or.inr (Or.inr (Or.inr (Or.inr ⟨Or.inr rfl, rfl⟩)))))))
theorem POk.cn (hX : XOk X) (h : POk X P) : Cn (fun l => cxc X (P / 128 * 128 + l)) (ft (fun l => cxc X (P / 128 * 128 + l)) (fun l => cxa X (P / 128 * 128 + l))) (cxO X (P / 128)) (cxV X (P / 128)) (cxM X (P / 128)) (P % 128) (FT X P).1 (cxc X P) (cxa X P) (cxx X P) [] := by
  obtain ⟨h1, h2, h3, h4⟩ := h
  have hc := (hX _ h1 h2).g (P % 128) (Nat.zero_le _) h3
  have e : P / 128 * 128 + P % 128 = P := by omega
  rw [e] at hc
  have h4' : (ft (fun l => cxc X (P / 128 * 128 + l)) (fun l => cxa X (P / 128 * 128 + l)) (P % 128)).2 = [] := h4
  rw [h4'] at hc
  exact hc
theorem POk.m9 (hX : XOk X) (h : POk X P) : cxM X (P / 128) ≤ 49 := (hX _ h.1 h.2.1).n9
/-- a place in a procedure's code -/
theorem POk.mk (hk : k < 4) (ht : cxt X k ≠ 0) (hj : j < 128) (hm : j < cxM X k) (he : (ft (fun l => cxc X (k * 128 + l)) (fun l => cxa X (k * 128 + l)) j).2 = []) : POk X (k * 128 + j) := by
  have e1 : (k * 128 + j) / 128 = k := by omega
  have e2 : (k * 128 + j) % 128 = j := by omega
  unfold POk
  rw [FT_kj hj, e1, e2]
  exact ⟨hk, ht, hm, he⟩
theorem POk.lt (hX : XOk X) (h : POk X P) : (FT X P).1 < cxN X (P / 128) ∧ cxN X (P / 128) ≤ 49 := by
  obtain ⟨n5, hn⟩ := (h.cn hX).nl
  obtain ⟨h1, h2, h3, h4⟩ := h
  have hc := hX _ h1 h2
  have e : P / 128 * 128 + P % 128 = P := by omega
  refine ⟨?_, hc.N9⟩
  have q1 : (ft (fun l => cxc X (P / 128 * 128 + l)) (fun l => cxa X (P / 128 * 128 + l)) (P % 128 + 1)).1 ≤ cxN X (P / 128) := by
    rw [hc.eN]
    exact ft_le h3
  have q2 : (ft (fun l => cxc X (P / 128 * 128 + l)) (fun l => cxa X (P / 128 * 128 + l)) (P % 128 + 1)).1 = (FT X P).1 + wd (cxc X P) (FT X P).2 := by
    show (FT X P).1 + wd (cxc X (P / 128 * 128 + P % 128)) (FT X P).2 = _
    rw [e]
  rw [q2, h4] at q1
  have q3 : 1 ≤ wd (cxc X P) [] := by
    unfold wd
    rw [if_neg n5]
    split
    · decide
    · split <;> decide
  omega
theorem POk.ne (hX : XOk X) (h : POk X P) (hn : nE (cxc X P)) : cxO X (P / 128) (FT X P).1 ≠ 1 ∧ cxO X (P / 128) (FT X P).1 ≠ 0 := by
  rcases (h.cn hX).nl.2 with k | k | k
  · exact ⟨k.2.2, k.2.1⟩
  · exact absurd k.1 hn.1
  · exact absurd k.1 hn.2
theorem POk.en (hX : XOk X) (h : POk X P) (hn : cxc X P = 30) : cxO X (P / 128) (FT X P).1 = 0 := by
  rcases (h.cn hX).nl.2 with k | k | k
  · exact absurd hn k.1.2
  · rw [k.1] at hn; exact absurd hn (by decide)
  · exact k.2
theorem POk.ju (hX : XOk X) (h : POk X P) (hn : cxc X P = 29) : ∃ A, cxa X P = Int32.ofNat A ∧ A < 128 ∧ POk X (P / 128 * 128 + A) ∧ nE (cxc X (P / 128 * 128 + A)) ∧ cxO X (P / 128) (FT X P).1 = 1 ∧ cxV X (P / 128) (FT X P).1 = Int32.ofNat (FT X (P / 128 * 128 + A)).1 := by
  rcases (h.cn hX).nl.2 with k | ⟨_, k2, A, k3, k4, k5, k6, k7⟩ | k
  · exact absurd hn k.1.1
  · have h9 := h.m9 hX
    have hA : A < 128 := by omega
    refine ⟨A, k3, hA, .mk h.1 h.2.1 hA k6 k5, k7, k2, ?_⟩
    rw [FT_kj hA]
    exact k4
  · rw [k.1] at hn; exact absurd hn (by decide)
/-- the beginning of a procedure -/
theorem XOk.st (hX : XOk X) (hk : k < 4) (ht : cxt X k ≠ 0) : POk X (k * 128) ∧ nE (cxc X (k * 128)) ∧ (FT X (k * 128)).1 = 0 := by
  have hc := hX k hk ht
  have h1 := POk.mk (X := X) (k := k) (j := 0) hk ht (by omega) hc.n1 rfl
  rw [Nat.add_zero] at h1
  refine ⟨h1, hc.f, ?_⟩
  have := FT_kj (X := X) (k := k) (j := 0) (by omega)
  rw [Nat.add_zero] at this
  rw [this]
  rfl
/-- work: behind an order of an expression the stack isn't empty -/
theorem Wk.ne {c a : Nat → Int32} {dv : Nat → UInt64} {i : Nat} {st : List UInt64} {o : Nat ⊕ (Nat × List UInt64)} (h : Wk c a dv i st o) : ∀ j', o = .inr (j', []) → j' = i ∧ st = [] := by
  induction h using Wk.rc with
  | stop => intro j' h; cases h; exact ⟨rfl, rfl⟩
  | num _ _ _ _ ih => intro j' h; exact absurd (ih j' h).2 (by simp)
  | ld _ _ _ _ _ _ ih => intro j' h; exact absurd (ih j' h).2 (by simp)
  | row _ _ _ _ _ _ _ _ ih => intro j' h; exact absurd (ih j' h).2 (by simp)
  | rp _ _ _ _ _ _ ih => intro j' h; exact absurd (ih j' h).2 (by simp)
  | rng => intro j' h; cases h
  | wh _ _ _ _ ih => intro j' h; exact absurd (ih j' h).2 (by simp)
  | bin _ _ _ _ _ _ _ _ _ ih => intro j' h; exact absurd (ih j' h).2 (by simp)
  | exc => intro j' h; cases h
end CX
