/-! BOTH RUNS: the class's processes and what goes on by itself -/
def sI (s : Nat) : Int32 := if s = 2 then 3 else if s = 3 then 2 else Int32.ofNat s
def pI (b : Nat) : Int32 := if b = 0 then -1 else Int32.ofNat (b - 1)
/-- the class's place z belongs to the reference's place P: it is that, or a jump to it -/
def AtR (X : Cx) (P z : Nat) : Prop := z = (FT X P).1 ∨ (z < cxN X (P / 128) ∧ cxO X (P / 128) z = 1 ∧ cxV X (P / 128) z = Int32.ofNat (FT X P).1)
/-- one process of the class -/
def Qcp (X : Cx) (S C R : Nat → Int32) (col : Nat → Nat) (cn : Nat) : Prop :=
  S 0 = sI (col 0) ∧ (col 0 ≠ 0 → S 1 = pI (col 1) ∧ (col 0 = 3 → S 2 = Int32.ofNat cn) ∧ S 3 = Int32.ofNat (col 4 / 128) ∧ (∃ z, S 4 = Int32.ofNat z ∧ AtR X (col 4) z) ∧ S 7 = Int32.ofNat (col 8 + col 7) ∧ S 8 = Int32.ofNat (col 8) ∧ (∀ l, l < col 7 → C (col 8 + l) = Int32.ofNat (col (10 + l) / 128) ∧ R (col 8 + l) = Int32.ofNat (FT X (col (10 + l))).1) ∧ (col 0 = 2 → S 5 = Int32.ofNat (col 5) ∧ S 6 = Int32.ofNat (col 6)))
def Qc (X : Cx) (K : pd_I) (A : Nat → Nat → Nat) : Prop := ∀ p, p < 5 → Qcp X (K (28 + 3 * p)) (K (29 + 3 * p)) (K (30 + 3 * p)) (A p) (cnt A p)
def Wf (X : Cx) (A : Nat → Nat → Nat) : Prop := Par A ∧ ∀ p, p < 5 → A p 0 ≠ 0 → A p 0 ≤ 3 ∧ POk X (A p 4) ∧ A p 8 + A p 7 ≤ 6 ∧ (∀ l, l < A p 7 → POk X (A p (10 + l)))
/-- a ready process stands before a statement -/
def Rs (X : Cx) (K : pd_I) (A : Nat → Nat → Nat) (p : Nat) : Prop := A p 0 = 1 → nE (cxc X (A p 4)) ∧ Sd K p 4 = Int32.ofNat (FT X (A p 4)).1
/-- the class's code -/
def Cc (X : Cx) (q : Nat → Nat) (K : pd_I) : Prop := ∀ k, k < 4 → pd_cO (q k) ∧ (cxt X k ≠ 0 → K (q k) 2 = Int32.ofNat (cxN X k) ∧ K (q k + 1) = cxO X k ∧ K (q k + 2) = cxV X k) ∧ (K (q k) 4 = 0 ↔ cxt X k = 0)
/-- cells that aren't a process's or the living -/
abbrev nSt (b z : Nat) : Prop := ¬ (b = 6 ∧ z = 11) ∧ ∀ p, p < 5 → b ≠ 28 + 3 * p
def FrC (K K' : pd_I) : Prop := ∀ b z, nSt b z → K' b z = K b z
section RC
variable {X : Cx} {K K' : pd_I} {A B : Nat → Nat → Nat} {q : Nat → Nat} {p P : Nat} {S C R : Nat → Int32} {col : Nat → Nat} {cn : Nat}
theorem mmu_I {α : Type} {f : Nat → Nat → α} {b k : Nat} {v : α} : (mm_u f b k v) b = pd_up (f b) k v := by
  funext j
  unfold mm_u pd_up
  rw [if_pos rfl]
theorem FrC.tr {K1 K2 K3 : pd_I} (h1 : FrC K1 K2) (h2 : FrC K2 K3) : FrC K1 K3 := fun b z h => (h2 b z h).trans (h1 b z h)
theorem FrC.pp {f : Nat} {v : Int32} (hp : p < 5) : FrC K (mm_u K (28 + 3 * p) f v) := fun _ _ h => mm_u_a (h.2 p hp)
theorem FrC.l {v : Int32} : FrC K (mm_u K 6 11 v) := by
  intro b z h
  by_cases h1 : b = 6
  · exact mm_u_k (fun h2 => h.1 ⟨h1, h2⟩)
  · exact mm_u_a h1
theorem Cc.fr (h : Cc X q K) (hf : FrC K K') : Cc X q K' := by
  intro k hk
  obtain ⟨h1, h2, h3⟩ := h k hk
  have n0 : ∀ z, nSt (q k) z := fun z => ⟨by rcases h1 with h | h | h | h | h <;> rw [h] <;> omega, fun p _ => by rcases h1 with h | h | h | h | h <;> rw [h] <;> omega⟩
  have n1 : ∀ z, nSt (q k + 1) z := fun z => ⟨by rcases h1 with h | h | h | h | h <;> rw [h] <;> omega, fun p _ => by rcases h1 with h | h | h | h | h <;> rw [h] <;> omega⟩
  have n2 : ∀ z, nSt (q k + 2) z := fun z => ⟨by rcases h1 with h | h | h | h | h <;> rw [h] <;> omega, fun p _ => by rcases h1 with h | h | h | h | h <;> rw [h] <;> omega⟩
  refine ⟨h1, fun ht => ?_, by rw [hf _ _ (n0 4)]; exact h3⟩
  obtain ⟨k1, k2, k3⟩ := h2 ht
  exact ⟨by rw [hf _ _ (n0 2)]; exact k1, by rw [← k2]; funext z; exact hf _ _ (n1 z), by rw [← k3]; funext z; exact hf _ _ (n2 z)⟩
/-- one process changes, not its state nor its parent -/
theorem Qc.one (h : Qc X K A) (hA : ∀ r, r ≠ p → B r = A r) (h01 : B p 0 = A p 0 ∧ B p 1 = A p 1) (hK : ∀ r, r < 5 → r ≠ p → K' (28 + 3 * r) = K (28 + 3 * r) ∧ K' (29 + 3 * r) = K (29 + 3 * r) ∧ K' (30 + 3 * r) = K (30 + 3 * r)) (hp : Qcp X (K' (28 + 3 * p)) (K' (29 + 3 * p)) (K' (30 + 3 * p)) (B p) (cnt A p)) : Qc X K' B := by
  have hc : ∀ r, cnt B r = cnt A r := fun r => cnt_cg (fun s => by
    by_cases e : s = p
    · rw [e]; exact h01
    · rw [hA s e]; exact ⟨rfl, rfl⟩)
  intro r hr
  rw [hc]
  by_cases e : r = p
  · rw [e]; exact hp
  · obtain ⟨k1, k2, k3⟩ := hK r hr e
    rw [hA r e, k1, k2, k3]
    exact h r hr
theorem mm_col {f : Nat} {v : Int32} : ∀ r, r < 5 → r ≠ p → (mm_u K (28 + 3 * p) f v) (28 + 3 * r) = K (28 + 3 * r) ∧ (mm_u K (28 + 3 * p) f v) (29 + 3 * r) = K (29 + 3 * r) ∧ (mm_u K (28 + 3 * p) f v) (30 + 3 * r) = K (30 + 3 * r) := fun r _ h => ⟨mm_u_ag (by omega), mm_u_ag (by omega), mm_u_ag (by omega)⟩
theorem Qcp.at {P' : Nat} (h : Qcp X S C R col cn) (hP : P' / 128 = col 4 / 128) {z : Nat} (hz : AtR X P' z) : Qcp X (pd_up S 4 (Int32.ofNat z)) C R (pd_up col 4 P') cn := by
  obtain ⟨h0, h1⟩ := h
  refine ⟨h0, fun hc => ?_⟩
  obtain ⟨k1, k2, k3, k4, k5, k6, k7, k8⟩ := h1 hc
  refine ⟨k1, k2, ?_, ⟨z, rfl, hz⟩, k5, k6, fun l hl => ?_, k8⟩
  · show S 3 = Int32.ofNat (P' / 128)
    rw [hP]; exact k3
  · have : pd_up col 4 P' (10 + l) = col (10 + l) := by unfold pd_up; rw [if_neg (by omega)]
    rw [this]
    exact k7 l hl
/-- a way back -/
theorem Qcp.rt {c : Nat} (h : Qcp X S C R col cn) (h0 : col 0 ≠ 0) (h7 : col 7 = c + 1) : Qcp X (pd_up (pd_up (pd_up S 7 (Int32.ofNat (col 8 + c))) 3 (C (col 8 + c))) 4 (R (col 8 + c))) C R (pd_up (pd_up col 7 (col 7 - 1)) 4 (col (10 + (col 7 - 1)))) cn := by
  obtain ⟨g0, g1⟩ := h
  refine ⟨g0, fun hc => ?_⟩
  obtain ⟨k1, k2, k3, k4, k5, k6, k7, k8⟩ := g1 hc
  obtain ⟨j1, j2⟩ := k7 c (by omega)
  have e1 : col 7 - 1 = c := by omega
  rw [e1]
  refine ⟨k1, k2, j1, ⟨_, j2, Or.inl rfl⟩, rfl, k6, fun l hl => ?_, k8⟩
  have hl' : l < c := hl
  have : pd_up (pd_up col 7 c) 4 (col (10 + c)) (10 + l) = col (10 + l) := by unfold pd_up; rw [if_neg (by omega), if_neg (by omega)]
  rw [this]
  exact k7 l (by omega)
theorem Qcp.alv (h : Qcp X S C R col cn) (h1 : col 0 = 1) : S 1 = pI (col 1) ∧ S 3 = Int32.ofNat (col 4 / 128) ∧ (∃ z, S 4 = Int32.ofNat z ∧ AtR X (col 4) z) ∧ S 7 = Int32.ofNat (col 8 + col 7) ∧ S 8 = Int32.ofNat (col 8) := by
  obtain ⟨k1, _, k3, k4, k5, k6, _⟩ := h.2 (by rw [h1]; decide)
  exact ⟨k1, k3, k4, k5, k6⟩
theorem Wf.sm (h : Wf X A) (hX : XOk X) (he : En (cxc X) A p) : Wf X (sm (cxc X) (cxa X) A p) := by
  refine ⟨h.1.sm he, fun r hr h0 => ?_⟩
  have hz : A p 0 ≠ 0 := by rw [he.2.1]; decide
  rw [sm_def] at h0 ⊢
  by_cases ho : ovq (cxc X) (A p)
  · rw [if_pos ho] at h0 ⊢
    have hrp : r ≠ p := by rintro rfl; exact h0 (by rw [kl_0, if_pos rfl])
    have hr0 : A r 0 ≠ 0 := by
      intro k
      rw [kl_0, if_neg hrp] at h0
      by_cases k9 : A p 1 = r + 1 ∧ cnt A r = 1
      · obtain ⟨b, e, _, k3⟩ := h.1 p he.1 hz (by omega)
        have : b = r := by omega
        subst this
        omega
      · rw [if_neg k9] at h0; exact h0 k
    obtain ⟨k1, k2, k3, k4⟩ := h.2 r hr hr0
    rw [kl_f (f := 4) (by decide), kl_f (f := 7) (by decide), kl_f (f := 8) (by decide)]
    refine ⟨?_, k2, k3, fun l hl => by rw [kl_f (by omega)]; exact k4 l hl⟩
    rw [kl_0, if_neg hrp]
    split <;> omega
  · rw [if_neg ho] at h0 ⊢
    by_cases hrp : r = p
    · subst hrp
      rw [if_pos rfl] at h0 ⊢
      obtain ⟨k1, k2, k3, k4⟩ := h.2 r hr hz
      unfold Lcl
      by_cases h29 : cxc X (A r 4) = 29
      · rw [if_pos h29]
        obtain ⟨a, a1, a2, a3, _⟩ := k2.ju hX h29
        rw [a1, pd_nn (by omega)]
        refine ⟨k1, a3, k3, fun l hl => ?_⟩
        have : pd_up (A r) 4 (A r 4 / 128 * 128 + a) (10 + l) = A r (10 + l) := by unfold pd_up; rw [if_neg (by omega)]
        rw [this]
        exact k4 l hl
      · rw [if_neg h29]
        have h7 : A r 7 ≠ 0 := fun k => ho ⟨h29, k⟩
        refine ⟨k1, k4 _ (by omega), ?_, fun l hl => ?_⟩
        · show A r 8 + (A r 7 - 1) ≤ 6
          omega
        · have hl' : l < A r 7 - 1 := hl
          have : pd_up (pd_up (A r) 7 (A r 7 - 1)) 4 (A r (10 + (A r 7 - 1))) (10 + l) = A r (10 + l) := by unfold pd_up; rw [if_neg (by omega), if_neg (by omega)]
          rw [this]
          exact k4 l (by omega)
    · rw [if_neg hrp] at h0 ⊢
      exact h.2 r hr h0
theorem nE_or {z : Int32} (h : ¬ nE z) : z = 29 ∨ z = 30 := by
  by_cases h1 : z = 29
  · exact Or.inl h1
  · by_cases h2 : z = 30
    · exact Or.inr h2
    · exact absurd ⟨h1, h2⟩ h
theorem int_lt {a b : Nat} (h : a ≤ b) (hb : b < 1000) : Int32.ofNat a ≤ Int32.ofNat b := by rw [pd_gtl (by omega) (by omega)]; exact h
/-- findsNext of process p: what it comes to -/
def FnR (X : Cx) (q : Nat → Nat) (p f : Nat) (K : pd_I) (A : Nat → Nat → Nat) : Prop := ∃ b K' B, Fn q p f K b K' ∧ Sms (cxc X) (cxa X) A B ∧ Qc X K' B ∧ Wf X B ∧ (∀ r, r ≠ p → B r = A r) ∧ B p 0 = 1 ∧ B p 1 = A p 1 ∧ (∀ b z, b ≠ 28 + 3 * p → K' b z = K b z) ∧ (b = true → nE (cxc X (B p 4)) ∧ Sd K' p 4 = Int32.ofNat (FT X (B p 4)).1) ∧ (b = false → ¬ nE (cxc X (B p 4)) ∧ ovq (cxc X) (B p))
theorem FnR.st {f : Nat} (he : En (cxc X) A p) (ho : ¬ ovq (cxc X) (A p)) (hk : ∀ b z, b ≠ 28 + 3 * p → K' b z = K b z) (hf : ∀ b K2, Fn q p f K' b K2 → Fn q p (f + 1) K b K2) (h : FnR X q p f K' (sm (cxc X) (cxa X) A p)) : FnR X q p (f + 1) K A := by
  obtain ⟨b, K2, B, h1, h2, h3, h4, h5, h6, h7, h8, h9, h10⟩ := h
  have e : sm (cxc X) (cxa X) A p = fun r => if r = p then Lcl (cxc X) (cxa X) (A p) else A r := by rw [sm_def, if_neg ho]
  refine ⟨b, K2, B, hf _ _ h1, .st he h2, h3, h4, fun r hr => ?_, h6, ?_, fun b z hb => (h8 b z hb).trans (hk b z hb), h9, h10⟩
  · rw [h5 r hr, e]; exact if_neg hr
  · rw [h7, e]
    show (if p = p then Lcl (cxc X) (cxa X) (A p) else A p) 1 = A p 1
    rw [if_pos rfl, Lcl_1]
theorem fn_hit {f : Nat} (hX : XOk X) (hp : p < 5) (hC : Cc X q K) (hQ : Qc X K A) (hW : Wf X A) (h1 : A p 0 = 1) (hat : Sd K p 4 = Int32.ofNat (FT X (A p 4)).1) (hn : nE (cxc X (A p 4))) : FnR X q p (f + 1) K A := by
  obtain ⟨w1, w2, w3, w4⟩ := hW.2 p hp (by rw [h1]; decide)
  obtain ⟨c1, c2, _⟩ := hC _ w2.1
  obtain ⟨c2, c3, c4⟩ := c2 w2.2.1
  obtain ⟨a1, a3, _, a7, a8⟩ := (hQ p hp).alv h1
  obtain ⟨l1, l2⟩ := w2.lt hX
  obtain ⟨n1, n2⟩ := w2.ne hX hn
  exact ⟨true, K, A, .hit w2.1 a3 c1 c2 l2 hat l1 (by rw [c3]; exact n1) (by rw [c3]; exact n2), .rf, hQ, hW, fun _ _ => rfl, h1, rfl, fun _ _ _ => rfl, fun _ => ⟨hn, hat⟩, fun h => by cases h⟩
theorem fn_ov {f : Nat} (hX : XOk X) (hp : p < 5) (hC : Cc X q K) (hQ : Qc X K A) (hW : Wf X A) (h1 : A p 0 = 1) (hat : Sd K p 4 = Int32.ofNat (FT X (A p 4)).1) (he : cxc X (A p 4) = 30) (h7 : A p 7 = 0) : FnR X q p (f + 1) K A := by
  obtain ⟨w1, w2, w3, w4⟩ := hW.2 p hp (by rw [h1]; decide)
  obtain ⟨c1, c2, _⟩ := hC _ w2.1
  obtain ⟨c2, c3, c4⟩ := c2 w2.2.1
  obtain ⟨a1, a3, _, a7, a8⟩ := (hQ p hp).alv h1
  obtain ⟨l1, l2⟩ := w2.lt hX
  have o := w2.en hX he
  refine ⟨false, K, A, .over w2.1 a3 c1 c2 l2 hat l1 (by rw [c3]; exact o) ?_, .rf, hQ, hW, fun _ _ => rfl, h1, rfl, fun _ _ _ => rfl, fun h => (by cases h), fun _ => ⟨fun h => h.2 he, by rw [he]; decide, h7⟩⟩
  show K (28 + 3 * p) 7 ≤ K (28 + 3 * p) 8
  rw [a7, a8, h7]
  exact int_lt (Nat.le_refl _) (by omega)
theorem fn_ju {f : Nat} (hX : XOk X) (hp : p < 5) (hC : Cc X q K) (hQ : Qc X K A) (hW : Wf X A) (h1 : A p 0 = 1) (hat : Sd K p 4 = Int32.ofNat (FT X (A p 4)).1) (h29 : cxc X (A p 4) = 29) : FnR X q p (f + 2) K A := by
  obtain ⟨w1, w2, w3, w4⟩ := hW.2 p hp (by rw [h1]; decide)
  obtain ⟨c1, c2, _⟩ := hC _ w2.1
  obtain ⟨c2, c3, c4⟩ := c2 w2.2.1
  obtain ⟨a1, a3, _, a7, a8⟩ := (hQ p hp).alv h1
  obtain ⟨l1, l2⟩ := w2.lt hX
  obtain ⟨a, j1, j2, j3, j4, j5, j6⟩ := w2.ju hX h29
  have he : En (cxc X) A p := ⟨hp, h1, fun h => h.1 h29⟩
  have ho : ¬ ovq (cxc X) (A p) := fun h => h.1 h29
  have eS : sm (cxc X) (cxa X) A p = fun r => if r = p then pd_up (A p) 4 (A p 4 / 128 * 128 + a) else A r := by
    rw [sm_def, if_neg ho]
    unfold Lcl
    rw [if_pos h29, j1, pd_nn (by omega)]
  have eP : sm (cxc X) (cxa X) A p p = pd_up (A p) 4 (A p 4 / 128 * 128 + a) := by rw [eS]; exact if_pos rfl
  refine FnR.st (K' := mm_u K (28 + 3 * p) 4 (Int32.ofNat (FT X (A p 4 / 128 * 128 + a)).1)) he ho (fun b z hb => mm_u_a hb) (fun b K2 hf => ?_) ?_
  · refine .jmp w2.1 a3 c1 c2 l2 hat l1 (by rw [c3]; exact j5) ?_
    rw [c4, j6]
    exact hf
  · refine fn_hit hX hp (hC.fr (.pp hp)) (hQ.one (p := p) (fun r hr => by rw [eS]; exact if_neg hr) (by rw [eP]; exact ⟨rfl, rfl⟩) mm_col ?_) (hW.sm hX he) (by rw [eP]; exact h1) ?_ (by rw [eP]; exact j4)
    · rw [eP, mmu_I, mm_u_ag (by omega), mm_u_ag (by omega)]
      exact (hQ p hp).at (by omega) (Or.inl rfl)
    · rw [eP]
      exact mm_u_s _ _ _ _
theorem fn_rt {f c : Nat} (hX : XOk X) (hp : p < 5) (hC : Cc X q K) (hQ : Qc X K A) (hW : Wf X A) (h1 : A p 0 = 1) (hat : Sd K p 4 = Int32.ofNat (FT X (A p 4)).1) (h30 : cxc X (A p 4) = 30) (h7 : A p 7 = c + 1) (hI : ∀ (K : pd_I) (A : Nat → Nat → Nat), Cc X q K → Qc X K A → Wf X A → A p 0 = 1 → A p 7 = c → Sd K p 4 = Int32.ofNat (FT X (A p 4)).1 → FnR X q p f K A) : FnR X q p (f + 1) K A := by
  obtain ⟨w1, w2, w3, w4⟩ := hW.2 p hp (by rw [h1]; decide)
  obtain ⟨c1, c2, _⟩ := hC _ w2.1
  obtain ⟨c2, c3, c4⟩ := c2 w2.2.1
  obtain ⟨a1, a3, _, a7, a8⟩ := (hQ p hp).alv h1
  obtain ⟨l1, l2⟩ := w2.lt hX
  have o := w2.en hX h30
  have n29 : cxc X (A p 4) ≠ 29 := by rw [h30]; decide
  have he : En (cxc X) A p := ⟨hp, h1, fun h => h.2 h30⟩
  have ho : ¬ ovq (cxc X) (A p) := fun h => by have := h.2; omega
  have eS : sm (cxc X) (cxa X) A p = fun r => if r = p then pd_up (pd_up (A p) 7 (A p 7 - 1)) 4 (A p (10 + (A p 7 - 1))) else A r := by
    rw [sm_def, if_neg ho]
    unfold Lcl
    rw [if_neg n29]
  have eP : sm (cxc X) (cxa X) A p p = pd_up (pd_up (A p) 7 (A p 7 - 1)) 4 (A p (10 + (A p 7 - 1))) := by rw [eS]; exact if_pos rfl
  have nK : ∀ b, b ≠ 28 + 3 * p → (mm_u (mm_u (mm_u K (28 + 3 * p) 7 (Int32.ofNat (A p 8 + c))) (28 + 3 * p) 3 (K (29 + 3 * p) (A p 8 + c))) (28 + 3 * p) 4 (K (30 + 3 * p) (A p 8 + c))) b = K b := fun b hb => by rw [mm_u_ag hb, mm_u_ag hb, mm_u_ag hb]
  have eK : (mm_u (mm_u (mm_u K (28 + 3 * p) 7 (Int32.ofNat (A p 8 + c))) (28 + 3 * p) 3 (K (29 + 3 * p) (A p 8 + c))) (28 + 3 * p) 4 (K (30 + 3 * p) (A p 8 + c))) (28 + 3 * p) = pd_up (pd_up (pd_up (K (28 + 3 * p)) 7 (Int32.ofNat (A p 8 + c))) 3 (K (29 + 3 * p) (A p 8 + c))) 4 (K (30 + 3 * p) (A p 8 + c)) := by rw [mmu_I, mmu_I, mmu_I]
  have hb := ((hQ p hp).2 (by rw [h1]; decide)).2.2.2.2.2.2.1 c (by omega)
  refine FnR.st (K' := mm_u (mm_u (mm_u K (28 + 3 * p) 7 (Int32.ofNat (A p 8 + c))) (28 + 3 * p) 3 (K (29 + 3 * p) (A p 8 + c))) (28 + 3 * p) 4 (K (30 + 3 * p) (A p 8 + c))) he ho (fun b z hb => congrFun (nK b hb) z) (fun b K2 hf => ?_) ?_
  · exact .back (ca := A p 8 + c) (cb := A p 8) w2.1 a3 c1 c2 l2 hat l1 (by rw [c3]; exact o) (by show K (28 + 3 * p) 7 = _; rw [a7, h7]; rfl) a8 (by omega) (by omega) hf
  · refine hI _ _ (hC.fr (((FrC.pp hp).tr (.pp hp)).tr (.pp hp))) (hQ.one (p := p) (fun r hr => by rw [eS]; exact if_neg hr) (by rw [eP]; exact ⟨rfl, rfl⟩) (fun r _ hr => ⟨nK _ (by omega), nK _ (by omega), nK _ (by omega)⟩) ?_) (hW.sm hX he) (by rw [eP]; exact h1) (by rw [eP]; show A p 7 - 1 = c; omega) ?_
    · rw [eP, eK, nK _ (by omega), nK _ (by omega)]
      exact (hQ p hp).rt (by rw [h1]; decide) h7
    · rw [eP]
      show (mm_u (mm_u (mm_u K (28 + 3 * p) 7 (Int32.ofNat (A p 8 + c))) (28 + 3 * p) 3 (K (29 + 3 * p) (A p 8 + c))) (28 + 3 * p) 4 (K (30 + 3 * p) (A p 8 + c))) (28 + 3 * p) 4 = Int32.ofNat (FT X (A p (10 + (A p 7 - 1)))).1
      rw [mm_u_s, show A p 7 - 1 = c by omega]
      exact hb.2
/-- findsNext, from an exact place -/
theorem fn_ex (hX : XOk X) (hp : p < 5) : ∀ (m f : Nat) (K : pd_I) (A : Nat → Nat → Nat), m + 2 ≤ f → Cc X q K → Qc X K A → Wf X A → A p 0 = 1 → A p 7 = m → Sd K p 4 = Int32.ofNat (FT X (A p 4)).1 → FnR X q p f K A := by
  intro m
  induction m with
  | zero =>
    intro f K A hf hC hQ hW h1 h7 hat
    obtain ⟨f, rfl⟩ : ∃ g, f = g + 2 := ⟨f - 2, by omega⟩
    by_cases hn : nE (cxc X (A p 4))
    · exact fn_hit hX hp hC hQ hW h1 hat hn
    · rcases nE_or hn with hj | he
      · exact fn_ju hX hp hC hQ hW h1 hat hj
      · exact fn_ov hX hp hC hQ hW h1 hat he h7
  | succ m ih =>
    intro f K A hf hC hQ hW h1 h7 hat
    obtain ⟨f, rfl⟩ : ∃ g, f = g + 2 := ⟨f - 2, by omega⟩
    by_cases hn : nE (cxc X (A p 4))
    · exact fn_hit hX hp hC hQ hW h1 hat hn
    · rcases nE_or hn with hj | he
      · exact fn_ju hX hp hC hQ hW h1 hat hj
      · exact fn_rt hX hp hC hQ hW h1 hat he h7 (fun K A => ih (f + 1) K A (by omega))
/-- findsNext, also behind a parting -/
theorem fn_c (hX : XOk X) (hp : p < 5) (hC : Cc X q K) (hQ : Qc X K A) (hW : Wf X A) (h1 : A p 0 = 1) : FnR X q p 49 K A := by
  obtain ⟨w1, w2, w3, w4⟩ := hW.2 p hp (by rw [h1]; decide)
  obtain ⟨a1, a3, ⟨z, a4, az⟩, a7, a8⟩ := (hQ p hp).alv h1
  rcases az with e | ⟨z1, z2, z3⟩
  · exact fn_ex hX hp (A p 7) 49 K A (by omega) hC hQ hW h1 rfl (by rw [← e]; exact a4)
  · obtain ⟨c1, c2, _⟩ := hC _ w2.1
    obtain ⟨c2, c3, c4⟩ := c2 w2.2.1
    obtain ⟨l1, l2⟩ := w2.lt hX
    have eA : pd_up (A p) 4 (A p 4) = A p := by
      funext f
      unfold pd_up
      split
      · next h => rw [h]
      · rfl
    have hQ' : Qc X (mm_u K (28 + 3 * p) 4 (Int32.ofNat (FT X (A p 4)).1)) A := by
      refine hQ.one (p := p) (fun _ _ => rfl) ⟨rfl, rfl⟩ mm_col ?_
      rw [mmu_I, mm_u_ag (by omega), mm_u_ag (by omega)]
      have := (hQ p hp).at (P' := A p 4) rfl (z := (FT X (A p 4)).1) (Or.inl rfl)
      rw [eA] at this
      exact this
    obtain ⟨b, K2, B, h1, h2, h3, h4, h5, h6, h7, h8, h9, h10⟩ := fn_ex (q := q) hX hp (A p 7) 48 _ A (by omega) (hC.fr (.pp hp)) hQ' hW h1 rfl (mm_u_s _ _ _ _)
    refine ⟨b, K2, B, .jmp w2.1 a3 c1 c2 l2 a4 z1 (by rw [c3]; exact z2) ?_, h2, h3, h4, h5, h6, h7, fun b z hb => (h8 b z hb).trans (mm_u_a hb), h9, h10⟩
    rw [c4, z3]
    exact h1
end RC
