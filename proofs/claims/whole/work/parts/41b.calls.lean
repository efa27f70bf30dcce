/-! calls on the fixed cells -/
theorem wtv (a : Value) : cond (mm_c2 a) 2 1 ≤ 2 := by cases mm_c2 a <;> decide
theorem wt0 : (mm_wt [] ≤ 8) = True := by simp [mm_wt]
theorem wt1 {a : Value} : (mm_wt [a] ≤ 8) = True := by simp only [mm_wt, eq_iff_iff, iff_true]; have := wtv a; omega
theorem wt2 {a b : Value} : (mm_wt [a, b] ≤ 8) = True := by simp only [mm_wt, eq_iff_iff, iff_true]; have := wtv a; have := wtv b; omega
theorem wt3 {a b c : Value} : (mm_wt [a, b, c] ≤ 8) = True := by simp only [mm_wt, eq_iff_iff, iff_true]; have := wtv a; have := wtv b; have := wtv c; omega
theorem wt4 {a b c e : Value} : (mm_wt [a, b, c, e] ≤ 8) = True := by simp only [mm_wt, eq_iff_iff, iff_true]; have := wtv a; have := wtv b; have := wtv c; have := wtv e; omega
section CALLS
variable {xs : Nat → Int32} {Ls d : Nat} {me : mm_Me} {L : mm_L} {rest : List Value} {o : mm_O} {pc : Nat} {I : pd_I} {D : pd_D} {A : pd_A} {J : pd_J} {n a c j : Nat} {x y z w : Value}
theorem qi0 (h : pd_SH[a]? = some (.inl c)) (hw : mm_wt rest ≤ 8) : pd_K xs Ls d me (mm_inv (mm_ev xs Ls pd_ck pd_ak pd_mj d) me pc L (.ref a :: rest) (pd_st I D A J n) j 0 c) o ↔ pd_K xs Ls d me (mm_back me pc L rest (mm_ev xs Ls pd_ck pd_ak pd_mj d j [.ref a] (pd_st I D A J n))) o := pd_Kinv0 h hw
theorem qi1 (h : pd_SH[a]? = some (.inl c)) (hw : mm_wt rest ≤ 8) : pd_K xs Ls d me (mm_inv (mm_ev xs Ls pd_ck pd_ak pd_mj d) me pc L (x :: .ref a :: rest) (pd_st I D A J n) j 1 c) o ↔ pd_K xs Ls d me (mm_back me pc L rest (mm_ev xs Ls pd_ck pd_ak pd_mj d j [.ref a, x] (pd_st I D A J n))) o := pd_Kinv1 h hw
theorem qi2 (h : pd_SH[a]? = some (.inl c)) (hw : mm_wt rest ≤ 8) : pd_K xs Ls d me (mm_inv (mm_ev xs Ls pd_ck pd_ak pd_mj d) me pc L (y :: x :: .ref a :: rest) (pd_st I D A J n) j 2 c) o ↔ pd_K xs Ls d me (mm_back me pc L rest (mm_ev xs Ls pd_ck pd_ak pd_mj d j [.ref a, x, y] (pd_st I D A J n))) o := pd_Kinv2 h hw
theorem qi3 (h : pd_SH[a]? = some (.inl c)) (hw : mm_wt rest ≤ 8) : pd_K xs Ls d me (mm_inv (mm_ev xs Ls pd_ck pd_ak pd_mj d) me pc L (z :: y :: x :: .ref a :: rest) (pd_st I D A J n) j 3 c) o ↔ pd_K xs Ls d me (mm_back me pc L rest (mm_ev xs Ls pd_ck pd_ak pd_mj d j [.ref a, x, y, z] (pd_st I D A J n))) o := pd_Kinv3 h hw
theorem qi4 (h : pd_SH[a]? = some (.inl c)) (hw : mm_wt rest ≤ 8) : pd_K xs Ls d me (mm_inv (mm_ev xs Ls pd_ck pd_ak pd_mj d) me pc L (w :: z :: y :: x :: .ref a :: rest) (pd_st I D A J n) j 4 c) o ↔ pd_K xs Ls d me (mm_back me pc L rest (mm_ev xs Ls pd_ck pd_ak pd_mj d j [.ref a, x, y, z, w] (pd_st I D A J n))) o := pd_Kinv4 h hw
end CALLS
