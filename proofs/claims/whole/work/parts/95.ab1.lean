/-! BOTH RUNS: the processes as numbers, and what goes on by itself -/
/-- process p, field f: 0 state (0 none, 1 ready, 2 waiting, 3 parted), 1 parent + 1, 4 place, 5 what it waits for, 6 ticket, 7 calls, 8 inherited, 10 + l the ways back -/
def lvp (A : Nat → Nat → Nat) (a s : Nat) : Nat := if A s 0 ≠ 0 ∧ A s 1 = a + 1 then 1 else 0
def cnt (A : Nat → Nat → Nat) (a : Nat) : Nat := lvp A a 0 + lvp A a 1 + lvp A a 2 + lvp A a 3 + lvp A a 4
def alv (A : Nat → Nat → Nat) (s : Nat) : Nat := if A s 0 = 0 then 0 else 1
def prA (A : Nat → Nat → Nat) : Nat := alv A 0 + alv A 1 + alv A 2 + alv A 3 + alv A 4
/-- process p is over -/
def kl (A : Nat → Nat → Nat) (p : Nat) : Nat → Nat → Nat := fun r f => if f = 0 then (if r = p then 0 else if A p 1 = r + 1 ∧ cnt A r = 1 then 1 else A r 0) else A r f
/-- a jump or a way back -/
def Lcl (c a : Nat → Int32) (col : Nat → Nat) : Nat → Nat := if c (col 4) = 29 then pd_up col 4 (col 4 / 128 * 128 + (a (col 4)).toNatClampNeg) else pd_up (pd_up col 7 (col 7 - 1)) 4 (col (10 + (col 7 - 1)))
abbrev ovq (c : Nat → Int32) (col : Nat → Nat) : Prop := c (col 4) ≠ 29 ∧ col 7 = 0
def sm (c a : Nat → Int32) (A : Nat → Nat → Nat) (p : Nat) : Nat → Nat → Nat := if ovq c (A p) then kl A p else fun r => if r = p then Lcl c a (A p) else A r
def En (c : Nat → Int32) (A : Nat → Nat → Nat) (p : Nat) : Prop := p < 5 ∧ A p 0 = 1 ∧ ¬ nE (c (A p 4))
/-- a parent has parted -/
def Par (A : Nat → Nat → Nat) : Prop := ∀ s, s < 5 → A s 0 ≠ 0 → A s 1 ≠ 0 → ∃ b, A s 1 = b + 1 ∧ b < 5 ∧ A b 0 = 3
def Sms (c a : Nat → Int32) (iz1 : (Nat → Nat → Nat)) (iz2 : (Nat → Nat → Nat)) : Prop := ∀ iC : ((Nat → Nat → Nat)) → ((Nat → Nat → Nat)) → Prop, (∀ (A : Nat → Nat → Nat), iC A A) → (∀ (A B : Nat → Nat → Nat) (p : Nat), En c A p → iC (sm c a A p) B → iC A B) → iC iz1 iz2
theorem Sms.rf {c a : Nat → Int32} {A : Nat → Nat → Nat}  : Sms c a A A := fun iC ik0 ik1 => ik0 A
theorem Sms.st {c a : Nat → Int32} {A B : Nat → Nat → Nat} {p : Nat} (ih0 : En c A p) (ih1 : Sms c a (sm c a A p) B) : Sms c a A B := fun iC ik0 ik1 => ik1 A B p ih0 (ih1 iC ik0 ik1)
theorem Sms.rc {c a : Nat → Int32} {motive : (iz1 : (Nat → Nat → Nat)) → (iz2 : (Nat → Nat → Nat)) → Sms c a iz1 iz2 → Prop} (rf : ∀ {A : Nat → Nat → Nat}, motive A A (Sms.rf (A := A))) (st : ∀ {A B : Nat → Nat → Nat} {p : Nat} (ih0 : En c A p) (ih1 : Sms c a (sm c a A p) B) (imih1 : motive (sm c a A p) B ih1), motive A B (Sms.st (A := A) (B := B) (p := p) ih0 ih1)) {iz1 : (Nat → Nat → Nat)} {iz2 : (Nat → Nat → Nat)} (ih : Sms c a iz1 iz2) : motive iz1 iz2 ih := by
  obtain ⟨_, im⟩ := ih (fun iz1 iz2 => ∃ ih : Sms c a iz1 iz2, motive iz1 iz2 ih) (fun A => ⟨(Sms.rf (A := A)), @rf A⟩) (fun A B p ih0 ⟨ih1, imih1⟩ => ⟨(Sms.st (A := A) (B := B) (p := p) ih0 ih1), @st A B p ih0 ih1 imih1⟩)
  exact im
section AB1
variable {c a : Nat → Int32} {A B C : Nat → Nat → Nat} {p p' r s : Nat}
theorem Lcl_0 {col : Nat → Nat} : Lcl c a col 0 = col 0 := by
  unfold Lcl pd_up
  split <;> rfl
theorem Lcl_1 {col : Nat → Nat} : Lcl c a col 1 = col 1 := by
  unfold Lcl pd_up
  split <;> rfl
theorem lvp_le : lvp A r s ≤ 1 := by unfold lvp; split <;> omega
theorem alv_le : alv A s ≤ 1 := by unfold alv; split <;> omega
theorem cnt_ge1 (hp : p < 5) (h0 : A p 0 ≠ 0) (h1 : A p 1 = r + 1) : 1 ≤ cnt A r := by
  have h : lvp A r p = 1 := by unfold lvp; rw [if_pos ⟨h0, h1⟩]
  unfold cnt
  have : p = 0 ∨ p = 1 ∨ p = 2 ∨ p = 3 ∨ p = 4 := by omega
  rcases this with rfl | rfl | rfl | rfl | rfl <;> omega
theorem cnt_ge2 (hp : p < 5) (hp' : p' < 5) (hne : p ≠ p') (h0 : A p 0 ≠ 0) (h1 : A p 1 = r + 1) (h0' : A p' 0 ≠ 0) (h1' : A p' 1 = r + 1) : 2 ≤ cnt A r := by
  have h : lvp A r p = 1 := by unfold lvp; rw [if_pos ⟨h0, h1⟩]
  have h' : lvp A r p' = 1 := by unfold lvp; rw [if_pos ⟨h0', h1'⟩]
  unfold cnt
  have q1 : p = 0 ∨ p = 1 ∨ p = 2 ∨ p = 3 ∨ p = 4 := by omega
  have q2 : p' = 0 ∨ p' = 1 ∨ p' = 2 ∨ p' = 3 ∨ p' = 4 := by omega
  rcases q1 with rfl | rfl | rfl | rfl | rfl <;> rcases q2 with rfl | rfl | rfl | rfl | rfl <;> omega
/-- a process that hasn't parted is left alone by the others' ends -/
theorem kl_o (hP : Par A) (hp : p < 5) (h0 : A p 0 ≠ 0) (hne : p' ≠ p) (h3 : A p' 0 ≠ 3) : kl A p p' = A p' := by
  funext f
  unfold kl
  by_cases hf : f = 0
  · rw [if_pos hf, if_neg hne, if_neg, hf]
    rintro ⟨h1, _⟩
    obtain ⟨b, e, _, k⟩ := hP p hp h0 (by omega)
    have : b = p' := by omega
    subst this
    exact h3 k
  · rw [if_neg hf]
theorem sm_o (hP : Par A) (hp : p < 5) (h0 : A p 0 ≠ 0) (hne : p' ≠ p) (h3 : A p' 0 ≠ 3) : sm c a A p p' = A p' := by
  unfold sm
  split
  · exact kl_o hP hp h0 hne h3
  · exact if_neg hne
theorem kl_0 : kl A p r 0 = if r = p then 0 else if A p 1 = r + 1 ∧ cnt A r = 1 then 1 else A r 0 := rfl
theorem sm_def : sm c a A p = if ovq c (A p) then kl A p else fun r => if r = p then Lcl c a (A p) else A r := rfl
theorem kl_f {f : Nat} (hf : f ≠ 0) : kl A p r f = A r f := by unfold kl; rw [if_neg hf]
theorem lvp_kl (hP : Par A) (hp : p < 5) (h0 : A p 0 ≠ 0) : lvp (kl A p) r s = if s = p then 0 else lvp A r s := by
  unfold lvp
  rw [kl_f (f := 1) (by decide)]
  by_cases hs : s = p
  · rw [if_pos hs, if_neg]
    rintro ⟨h, _⟩
    apply h
    unfold kl
    rw [if_pos rfl, if_pos hs]
  · rw [if_neg hs]
    have : (kl A p s 0 ≠ 0) ↔ (A s 0 ≠ 0) := by
      unfold kl
      rw [if_pos rfl, if_neg hs]
      by_cases k : A p 1 = s + 1 ∧ cnt A s = 1
      · rw [if_pos k]
        obtain ⟨b, e, _, k3⟩ := hP p hp h0 (by omega)
        have : b = s := by omega
        subst this
        rw [k3]
        decide
      · rw [if_neg k]
    by_cases h : A s 0 ≠ 0 ∧ A s 1 = r + 1
    · rw [if_pos ⟨this.mpr h.1, h.2⟩, if_pos h]
    · rw [if_neg (fun k => h ⟨this.mp k.1, k.2⟩), if_neg h]
theorem cnt_kl (hP : Par A) (hp : p < 5) (h0 : A p 0 ≠ 0) : cnt (kl A p) r + (if A p 1 = r + 1 then 1 else 0) = cnt A r := by
  have e : lvp A r p = if A p 1 = r + 1 then 1 else 0 := by
    unfold lvp
    by_cases h : A p 1 = r + 1
    · rw [if_pos ⟨h0, h⟩, if_pos h]
    · rw [if_neg (fun k => h k.2), if_neg h]
  rw [← e]
  unfold cnt
  rw [lvp_kl hP hp h0, lvp_kl hP hp h0, lvp_kl hP hp h0, lvp_kl hP hp h0, lvp_kl hP hp h0]
  have : p = 0 ∨ p = 1 ∨ p = 2 ∨ p = 3 ∨ p = 4 := by omega
  rcases this with rfl | rfl | rfl | rfl | rfl <;> simp <;> omega
theorem alv_kl (hP : Par A) (hp : p < 5) (h0 : A p 0 ≠ 0) : alv (kl A p) s = if s = p then 0 else alv A s := by
  unfold alv
  by_cases hs : s = p
  · have : kl A p s 0 = 0 := by unfold kl; rw [if_pos rfl, if_pos hs]
    rw [if_pos hs, if_pos this]
  · rw [if_neg hs]
    have : (kl A p s 0 = 0) ↔ (A s 0 = 0) := by
      unfold kl
      rw [if_pos rfl, if_neg hs]
      by_cases k : A p 1 = s + 1 ∧ cnt A s = 1
      · rw [if_pos k]
        obtain ⟨b, e, _, k3⟩ := hP p hp h0 (by omega)
        have : b = s := by omega
        subst this
        rw [k3]
        decide
      · rw [if_neg k]
    by_cases h : A s 0 = 0
    · rw [if_pos (this.mpr h), if_pos h]
    · rw [if_neg (fun k => h (this.mp k)), if_neg h]
theorem prA_kl (hP : Par A) (hp : p < 5) (h0 : A p 0 ≠ 0) : prA (kl A p) + 1 = prA A := by
  have e : alv A p = 1 := by unfold alv; rw [if_neg h0]
  unfold prA
  rw [alv_kl hP hp h0, alv_kl hP hp h0, alv_kl hP hp h0, alv_kl hP hp h0, alv_kl hP hp h0]
  have : p = 0 ∨ p = 1 ∨ p = 2 ∨ p = 3 ∨ p = 4 := by omega
  rcases this with rfl | rfl | rfl | rfl | rfl <;> simp <;> omega
theorem prA_le : prA A ≤ 5 := by
  have h0 := alv_le (A := A) (s := 0)
  have h1 := alv_le (A := A) (s := 1)
  have h2 := alv_le (A := A) (s := 2)
  have h3 := alv_le (A := A) (s := 3)
  have h4 := alv_le (A := A) (s := 4)
  unfold prA
  omega
theorem prA_pos (hp : p < 5) (h : A p 0 ≠ 0) : 1 ≤ prA A := by
  have e : alv A p = 1 := by unfold alv; rw [if_neg h]
  unfold prA
  have : p = 0 ∨ p = 1 ∨ p = 2 ∨ p = 3 ∨ p = 4 := by omega
  rcases this with rfl | rfl | rfl | rfl | rfl <;> omega
/-- columns that keep states and parents -/
theorem cnt_cg (h : ∀ s, B s 0 = A s 0 ∧ B s 1 = A s 1) : cnt B r = cnt A r := by
  unfold cnt lvp
  rw [(h 0).1, (h 0).2, (h 1).1, (h 1).2, (h 2).1, (h 2).2, (h 3).1, (h 3).2, (h 4).1, (h 4).2]
theorem prA_cg (h : ∀ s, (B s 0 = 0) ↔ (A s 0 = 0)) : prA B = prA A := by
  have e : ∀ s, alv B s = alv A s := by
    intro s
    unfold alv
    by_cases k : A s 0 = 0
    · rw [if_pos k, if_pos ((h s).mpr k)]
    · rw [if_neg k, if_neg (fun k2 => k ((h s).mp k2))]
  unfold prA
  rw [e, e, e, e, e]
theorem lc_01 : ∀ s, ((fun r => if r = p then Lcl c a (A p) else A r) s 0 = A s 0) ∧ ((fun r => if r = p then Lcl c a (A p) else A r) s 1 = A s 1) := by
  intro s
  show (if s = p then Lcl c a (A p) else A s) 0 = A s 0 ∧ (if s = p then Lcl c a (A p) else A s) 1 = A s 1
  by_cases h : s = p
  · rw [if_pos h, Lcl_0, Lcl_1, h]; exact ⟨rfl, rfl⟩
  · rw [if_neg h]; exact ⟨rfl, rfl⟩
theorem Par.lc (hP : Par A) (h : ∀ s, B s 0 = A s 0 ∧ B s 1 = A s 1) : Par B := by
  intro s hs h0 h1
  rw [(h s).1] at h0
  rw [(h s).2] at h1
  obtain ⟨b, e, k1, k2⟩ := hP s hs h0 h1
  exact ⟨b, by rw [(h s).2]; exact e, k1, by rw [(h b).1]; exact k2⟩
theorem Par.kl (hP : Par A) (hp : p < 5) (h0 : A p 0 = 1) : Par (kl A p) := by
  have h0' : A p 0 ≠ 0 := by rw [h0]; decide
  intro s hs k0 k1
  rw [kl_f (f := 1) (by decide)] at k1
  have hsp : s ≠ p := by
    rintro rfl
    apply k0
    rw [kl_0, if_pos rfl]
  have hs0 : A s 0 ≠ 0 := by
    intro h
    have h9 := alv_kl (s := s) hP hp h0'
    rw [if_neg hsp] at h9
    unfold alv at h9
    rw [if_neg k0, if_pos h] at h9
    omega
  obtain ⟨b, e, hb, h3⟩ := hP s hs hs0 k1
  refine ⟨b, by rw [kl_f (f := 1) (by decide)]; exact e, hb, ?_⟩
  have hbp : b ≠ p := by rintro rfl; rw [h0] at h3; omega
  rw [kl_0, if_neg hbp, if_neg, h3]
  rintro ⟨e1, e2⟩
  have := cnt_ge2 (A := A) (r := b) hp hs (fun h => hsp h.symm) h0' e1 hs0 e
  omega
theorem Par.sm (hP : Par A) (h : En c A p) : Par (sm c a A p) := by
  rw [sm_def]
  split
  · exact hP.kl h.1 h.2.1
  · exact hP.lc lc_01
/-- two that go on by themselves -/
theorem sm_di (hP : Par A) (h1 : En c A p) (h2 : En c A p') (hne : p ≠ p') : En c (sm c a A p) p' ∧ sm c a (sm c a A p) p' = sm c a (sm c a A p') p := by
  have z1 : A p 0 ≠ 0 := by rw [h1.2.1]; decide
  have z2 : A p' 0 ≠ 0 := by rw [h2.2.1]; decide
  have e1 : sm c a A p p' = A p' := sm_o hP h1.1 z1 (fun h => hne h.symm) (by rw [h2.2.1]; decide)
  have e2 : sm c a A p' p = A p := sm_o hP h2.1 z2 hne (by rw [h1.2.1]; decide)
  refine ⟨⟨h2.1, by rw [e1]; exact h2.2.1, by rw [e1]; exact h2.2.2⟩, ?_⟩
  have u1 : sm c a (sm c a A p) p' = if ovq c (A p') then kl (sm c a A p) p' else fun r => if r = p' then Lcl c a (A p') else sm c a A p r := by
    rw [sm_def (A := sm c a A p), e1]
  have u2 : sm c a (sm c a A p') p = if ovq c (A p) then kl (sm c a A p') p else fun r => if r = p then Lcl c a (A p) else sm c a A p' r := by
    rw [sm_def (A := sm c a A p'), e2]
  rw [u1, u2]
  by_cases o1 : ovq c (A p)
  · have f1 : sm c a A p = kl A p := by unfold sm; rw [if_pos o1]
    rw [if_pos o1, f1]
    by_cases o2 : ovq c (A p')
    · have f2 : sm c a A p' = kl A p' := by unfold sm; rw [if_pos o2]
      rw [if_pos o2, f2]
      funext r f
      by_cases hf : f = 0
      · subst hf
        have c1 := cnt_kl (r := r) hP h1.1 z1
        have c2 := cnt_kl (r := r) hP h2.1 z2
        have g2 : A p' 1 = r + 1 → A p 1 = r + 1 → 2 ≤ cnt A r := fun k1 k2 => cnt_ge2 h1.1 h2.1 hne z1 k2 z2 k1
        have w1 : A p 1 ≠ p' + 1 := by
          intro h
          obtain ⟨b, k1, _, k3⟩ := hP p h1.1 z1 (by omega)
          have : b = p' := by omega
          subst this
          rw [h2.2.1] at k3; omega
        have w2 : A p' 1 ≠ p + 1 := by
          intro h
          obtain ⟨b, k1, _, k3⟩ := hP p' h2.1 z2 (by omega)
          have : b = p := by omega
          subst this
          rw [h1.2.1] at k3; omega
        have l1 : kl (kl A p) p' r 0 = if r = p' then 0 else if A p' 1 = r + 1 ∧ cnt (kl A p) r = 1 then 1 else if r = p then 0 else if A p 1 = r + 1 ∧ cnt A r = 1 then 1 else A r 0 := by
          rw [kl_0, kl_0, kl_f (f := 1) (by decide)]
        have l2 : kl (kl A p') p r 0 = if r = p then 0 else if A p 1 = r + 1 ∧ cnt (kl A p') r = 1 then 1 else if r = p' then 0 else if A p' 1 = r + 1 ∧ cnt A r = 1 then 1 else A r 0 := by
          rw [kl_0, kl_0, kl_f (f := 1) (by decide)]
        rw [l1, l2]
        by_cases r1 : r = p
        · subst r1
          rw [if_pos rfl, if_neg hne, if_neg (fun h => w2 h.1), if_pos rfl]
        · by_cases r2 : r = p'
          · subst r2
            rw [if_pos rfl, if_neg r1, if_neg (fun h => w1 h.1), if_pos rfl]
          · rw [if_neg r1, if_neg r2, if_neg r1, if_neg r2]
            by_cases q1 : A p 1 = r + 1
            · rw [if_pos q1] at c1
              by_cases q2 : A p' 1 = r + 1
              · rw [if_pos q2] at c2
                have := g2 q2 q1
                by_cases k : cnt A r = 2
                · rw [if_pos ⟨q2, by omega⟩, if_pos ⟨q1, by omega⟩]
                · rw [if_neg (fun h => k (by omega)), if_neg (fun h => absurd h.2 (by omega)), if_neg (fun h => k (by omega)), if_neg (fun h => absurd h.2 (by omega))]
              · rw [if_neg q2] at c2
                rw [if_neg (fun h => q2 h.1), if_neg (c := A p' 1 = r + 1 ∧ cnt A r = 1) (fun h => q2 h.1)]
                by_cases k : cnt A r = 1
                · rw [if_pos ⟨q1, k⟩, if_pos ⟨q1, by omega⟩]
                · rw [if_neg (fun h => k h.2), if_neg (fun h => k (by omega))]
            · rw [if_neg q1] at c1
              rw [if_neg (c := A p 1 = r + 1 ∧ cnt A r = 1) (fun h => q1 h.1), if_neg (c := A p 1 = r + 1 ∧ cnt (kl A p') r = 1) (fun h => q1 h.1)]
              by_cases k : A p' 1 = r + 1 ∧ cnt A r = 1
              · rw [if_pos k, if_pos ⟨k.1, by omega⟩]
              · rw [if_neg k, if_neg (fun h => k ⟨h.1, by omega⟩)]
      · rw [kl_f hf, kl_f hf, kl_f hf, kl_f hf]
    · have f2 : sm c a A p' = fun r => if r = p' then Lcl c a (A p') else A r := by unfold sm; rw [if_neg o2]
      rw [if_neg o2, f2]
      have hc : ∀ r, cnt (fun r => if r = p' then Lcl c a (A p') else A r) r = cnt A r := fun r => cnt_cg lc_01
      funext r f
      show (if r = p' then Lcl c a (A p') else kl A p r) f = kl (fun r => if r = p' then Lcl c a (A p') else A r) p r f
      unfold kl
      rw [hc, (lc_01 (A := A) (p := p') r).1, (lc_01 (A := A) (p := p') p).2]
      dsimp only
      by_cases r2 : r = p'
      · subst r2
        rw [if_pos rfl, if_pos rfl]
        by_cases hf : f = 0
        · subst hf
          rw [if_pos rfl, if_neg (fun h => hne h.symm), if_neg, Lcl_0]
          rintro ⟨h, _⟩
          obtain ⟨b, k1, _, k3⟩ := hP p h1.1 z1 (by omega)
          have : b = r := by omega
          subst this
          rw [h2.2.1] at k3; omega
        · rw [if_neg hf]
      · rw [if_neg r2, if_neg r2]
  · have f1 : sm c a A p = fun r => if r = p then Lcl c a (A p) else A r := by unfold sm; rw [if_neg o1]
    rw [if_neg o1, f1]
    by_cases o2 : ovq c (A p')
    · have f2 : sm c a A p' = kl A p' := by unfold sm; rw [if_pos o2]
      rw [if_pos o2, f2]
      have hc : ∀ r, cnt (fun r => if r = p then Lcl c a (A p) else A r) r = cnt A r := fun r => cnt_cg lc_01
      funext r f
      show kl (fun r => if r = p then Lcl c a (A p) else A r) p' r f = (if r = p then Lcl c a (A p) else kl A p' r) f
      unfold kl
      rw [hc, (lc_01 (A := A) (p := p) r).1, (lc_01 (A := A) (p := p) p').2]
      dsimp only
      by_cases r2 : r = p
      · subst r2
        rw [if_pos rfl, if_pos rfl]
        by_cases hf : f = 0
        · subst hf
          rw [if_pos rfl, if_neg hne, if_neg, Lcl_0]
          rintro ⟨h, _⟩
          obtain ⟨b, k1, _, k3⟩ := hP p' h2.1 z2 (by omega)
          have : b = r := by omega
          subst this
          rw [h1.2.1] at k3; omega
        · rw [if_neg hf]
      · rw [if_neg r2, if_neg r2]
    · have f2 : sm c a A p' = fun r => if r = p' then Lcl c a (A p') else A r := by unfold sm; rw [if_neg o2]
      rw [if_neg o2, f2]
      funext r f
      show (if r = p' then Lcl c a (A p') else if r = p then Lcl c a (A p) else A r) f = (if r = p then Lcl c a (A p) else if r = p' then Lcl c a (A p') else A r) f
      by_cases r1 : r = p
      · rw [if_neg (fun h => hne (r1.symm.trans h)), if_pos r1, if_pos r1]
      · rw [if_neg r1, if_neg r1]
def Nrm (c : Nat → Int32) (A : Nat → Nat → Nat) : Prop := ∀ p, ¬ En c A p
theorem Sms.strip (h : Sms c a A B) : Par A → Nrm c B → ∀ p, En c A p → Sms c a (sm c a A p) B := by
  induction h using Sms.rc with
  | @rf A => intro _ hn p hp; exact absurd hp (hn p)
  | @st A B p' h1 h2 ih =>
    intro hP hn p hp
    by_cases hne : p = p'
    · subst hne; exact h2
    · obtain ⟨d1, d2⟩ := sm_di (a := a) hP hp h1 hne
      obtain ⟨d3, d4⟩ := sm_di (a := a) hP h1 hp (fun h => hne h.symm)
      refine .st d1 ?_
      rw [d2]
      exact ih (hP.sm h1) hn p d3
/-- what goes on by itself comes to one end -/
theorem Sms.one (h : Sms c a A C) : Par A → Nrm c C → ∀ B, Sms c a A B → Nrm c B → B = C := by
  induction h using Sms.rc with
  | @rf A =>
    intro hP hn B hB hnB
    generalize hC : A = A' at *
    induction hB using Sms.rc with
    | rf => exact hC.symm ▸ rfl
    | st h1 _ => exact absurd h1 (hn _)
  | @st A C p h1 h2 ih =>
    intro hP hn B hB hnB
    exact ih (hP.sm h1) hn B (hB.strip hP hnB p h1) hnB
theorem Sms.tr (h : Sms c a A B) (h2 : Sms c a B C) : Sms c a A C := by
  induction h using Sms.rc with
  | rf => exact h2
  | st k1 k2 ih => exact .st k1 (ih h2)
end AB1
