/-! MORE DEPTH CHANGES NO ANSWER -/
section FUEL
variable {call call' : Nat → List Value → mm_St → Option mm_O} {xs : Nat → Int32} {Ls : Nat} {ck : Nat → List Nat} {ak : Nat → FieldType} {me : mm_Me} {pc : Nat} {L : mm_L} {st : List Value} {S : mm_St} {r0 : mm_Z ⊕ mm_O}
theorem fu_back {rest : List Value} {x y : Option mm_O} (hc : ∀ o, x = some o → y = some o) (h : mm_back me pc L rest x = some r0) : mm_back me pc L rest y = some r0 := by
  cases x with
  | none => cases h
  | some o => rw [hc o rfl]; exact h
theorem fu_cond {b : Bool} {x y z : mm_N} (hc : x = some r0 → y = some r0) (h : cond b x z = some r0) : cond b y z = some r0 := by
  cases b
  · exact h
  · exact hc h
theorem fu_cond2 {b : Bool} {x y z w : mm_N} (hc : x = some r0 → y = some r0) (hz : z = some r0 → w = some r0) (h : cond b x z = some r0) : cond b y w = some r0 := by
  cases b
  · exact hz h
  · exact hc h
theorem fu_inv {j n ci : Nat} (hc : ∀ j as S o, call j as S = some o → call' j as S = some o) (h : mm_inv call me pc L st S j n ci = some r0) : mm_inv call' me pc L st S j n ci = some r0 := by
  unfold mm_inv at h ⊢
  split at h
  · next as a rest heq =>
    split at h
    · next ci' heq2 =>
      exact fu_cond (fun h => fu_back (fun o ho => hc _ _ _ _ ho) h) h
    · cases h
  · cases h
theorem fu_invS {j n : Nat} (hc : ∀ j as S o, call j as S = some o → call' j as S = some o) (h : mm_invS call me pc L st S j n = some r0) : mm_invS call' me pc L st S j n = some r0 := by
  unfold mm_invS at h ⊢
  split at h
  · next as rest heq =>
    exact fu_cond (fun h => fu_back (fun o ho => hc _ _ _ _ ho) h) h
  · cases h
theorem fu_noT {x y : mm_N} (hc : ∀ r, x = some r → y = some r) (h : mm_noT x = some r0) : mm_noT y = some r0 := by
  cases x with
  | none => cases h
  | some r => rw [hc r rfl]; exact h
theorem fu_lk {ix : Nat} {f g : mm_K → mm_N} (hc : ∀ k, f k = some r0 → g k = some r0) (h : mm_lk me ix f = some r0) : mm_lk me ix g = some r0 := by
  unfold mm_lk at h ⊢
  split at h
  · next k heq => exact hc k h
  · cases h
set_option maxHeartbeats 4000000 in
theorem fu_do (hc : ∀ j as S o, call j as S = some o → call' j as S = some o) (i : Instr) (h : mm_do call xs Ls ck ak me pc L st S i = some r0) : mm_do call' xs Ls ck ak me pc L st S i = some r0 := by
  cases i with
  | invokevirtual ix => exact fu_lk (fun k h => fu_cond (fun h => fu_inv hc h) h) h
  | invokespecial ix => exact fu_lk (fun k h => fu_cond (fun h => fu_noT (fun r h => fu_inv hc h) h) h) h
  | invokestatic ix => exact fu_lk (fun k h => fu_cond2 (fun h => fu_invS hc h) (fun h => fu_cond (fun h => fu_noT (fun r h => fu_invS hc h) h) h) h) h
  | _ => exact h
theorem fu_step {z : mm_Z} (hc : ∀ j as S o, call j as S = some o → call' j as S = some o) (h : mm_step call xs Ls ck ak me z = some r0) : mm_step call' xs Ls ck ak me z = some r0 := by
  unfold mm_step at h ⊢
  split at h
  · next i heq => exact fu_do hc _ h
  · cases h
theorem fu_R {o : mm_O} (hc : ∀ j as S o, call j as S = some o → call' j as S = some o) : ∀ (n : Nat) (z : mm_Z), mm_ex (mm_step call xs Ls ck ak me) n z = some o → mm_R (mm_step call' xs Ls ck ak me) z o := by
  intro n
  induction n with
  | zero => intro z h; cases h
  | succ n ih =>
    intro z h
    unfold mm_ex at h
    split at h
    · next z' heq => exact mm_R.go (fu_step hc heq) (ih z' h)
    · next o' heq => cases h; exact mm_R.end (fu_step hc heq)
    · cases h
theorem fu_ev1 : ∀ (d j : Nat) (as : List Value) (S : mm_St) (o : mm_O), mm_ev xs Ls pd_ck pd_ak pd_mj d j as S = some o → mm_ev xs Ls pd_ck pd_ak pd_mj (d + 1) j as S = some o := by
  intro d
  induction d with
  | zero => intro j as S o h; cases h
  | succ d ih =>
    intro j as S o h
    obtain ⟨h1, n, h2⟩ := (mm_ev_iff xs Ls pd_ck pd_ak pd_mj).mp h
    exact (mm_ev_iff xs Ls pd_ck pd_ak pd_mj).mpr ⟨h1, fu_R ih n _ h2⟩
theorem fu_ev {d d' j : Nat} {as : List Value} {o : mm_O} (h : mm_ev xs Ls pd_ck pd_ak pd_mj d j as S = some o) (hd : d ≤ d') : mm_ev xs Ls pd_ck pd_ak pd_mj d' j as S = some o := by
  induction hd with
  | refl => exact h
  | step _ ih => exact fu_ev1 _ _ _ _ _ ih
end FUEL
section FUEL2
variable {I : pd_I} {D : pd_D} {J : pd_J} {n : Nat} {xs : Nat → Int32} {Ls : Nat} {q : Nat → Nat} {i : Nat}
/-- work, at every depth -/
theorem ev119d {o : Nat ⊕ (Nat × List UInt64)} (h : Wk (I 45) (I 46) (D 53) i [] o) (ht : I 43 39 = 0) : ∃ K' D' r, WkR I K' D D' r o ∧ ∀ d, 3 ≤ d → mm_ev xs Ls pd_ck pd_ak pd_mj d 119 [.ref (43 : Nat), .int (Int32.ofNat i)] (pd_st I D (pd_RF q) J n) = some (.inl (some (.int r)), pd_st K' D' (pd_RF q) J n) := by
  obtain ⟨K', D', r, w1, w2⟩ := ev119 (xs := xs) (Ls := Ls) (q := q) (J := J) (n := n) (d := 3) h (Nat.le_refl _) ht
  exact ⟨K', D', r, w1, fun d hd => fu_ev w2 hd⟩
end FUEL2
