/-! TYPE: both texts grow alike -/
section LK8
variable {K K' : pd_I} {e : Int64}
theorem tyB_rel : ∀ (f m : Nat) (bb : Bool) (x x' : Nat × (Nat → Int32)), x.1 = x'.1 → (∀ k, k < x.1 → x.2 k = x'.2 k ∧ pd_chr (x.2 k)) → (tyA e f (m, bb)).2 = false → (tyB e f x).1 = (tyB e f x').1 ∧ ∀ k, k < (tyB e f x).1 → (tyB e f x).2 k = (tyB e f x').2 k ∧ pd_chr ((tyB e f x).2 k) := by
  intro f
  induction f with
  | zero => intro m bb x x' h1 h2 _; exact ⟨h1, h2⟩
  | succ f ih =>
    intro m bb x x' h1 h2 hA
    have hb := tyA_f hA
    have eA : tyA e (f + 1) (m, bb) = tyA e f (if byt e (Int32.ofNat (8 * f)) = 0 then m else m + 1, bb || badB (byt e (Int32.ofNat (8 * f)))) := rfl
    rw [eA] at hA
    unfold tyB
    by_cases c0 : byt e (Int32.ofNat (8 * f)) = 0
    · rw [if_pos c0, if_pos c0]
      exact ih _ _ x x' h1 h2 hA
    · rw [if_neg c0, if_neg c0]
      refine ih _ _ _ _ (by show x.1 + 1 = x'.1 + 1; rw [h1]) (fun k hk => ?_) hA
      have hk' : k < x.1 + 1 := hk
      show pd_up x.2 x.1 _ k = pd_up x'.2 x'.1 _ k ∧ pd_chr (pd_up x.2 x.1 _ k)
      unfold pd_up
      by_cases h9 : k = x.1
      · rw [if_pos h9, if_pos (h9.trans h1)]
        exact ⟨rfl, badB_chr hb c0⟩
      · rw [if_neg h9, if_neg (by rw [← h1]; exact h9)]
        exact h2 k (by omega)
/-- the texts after type, on both sides -/
theorem Tin.ty {l : Nat} (h : Tin K l) (hA : (tyA e 8 (0, false)).2 = false) (hl : (tyB e 8 (l, K 2)).1 ≤ 48) (h1 : K' 1 1 = Int32.ofNat (tyB e 8 (l, K 2)).1) (h2 : K' 2 = (tyB e 8 (l, K 2)).2) (h3 : K' 43 8 = Int32.ofNat (tyB e 8 (l, K 44)).1) (h4 : K' 44 = (tyB e 8 (l, K 44)).2) : Tin K' (tyB e 8 (l, K 2)).1 := by
  obtain ⟨g1, g2, g3, g4⟩ := h
  obtain ⟨r1, r2⟩ := tyB_rel (e := e) 8 0 false (l, K 2) (l, K 44) rfl g4 hA
  refine ⟨h1, by rw [h3, r1], hl, fun k hk => ?_⟩
  rw [h2, h4]
  exact r2 k hk
theorem tcK_rf {x : Nat × (Nat → Int32)} : rfE K (tcK K x) := by
  intro b hb
  funext k
  unfold tcK
  rw [if_neg (by omega), if_neg (by omega)]
theorem txK_cl {x : Nat × (Nat → Int32)} : clE K (txK K x) := by
  intro b hb
  funext k
  unfold txK
  rw [if_neg (by omega), if_neg (by omega)]
end LK8
