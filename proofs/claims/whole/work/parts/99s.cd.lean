/-! BOTH: the calls of tape, variable, set, written, count -/
def CallN (xs : Nat → Int32) (Ls : Nat) (q : Nat → Nat) (K : pd_I) (D : pd_D) (J : pd_J) (n : Nat) (jc : Nat) (ac : List Value) (jr : Nat) (ar : List Value) : Prop := ∃ kk K1 D1 n1 K2 D2, (∀ d, 100 ≤ d → mm_ev xs Ls pd_ck pd_ak pd_mj d jc ac (pd_st K D (pd_RF q) J n) = some (.inl (some (.int kk)), pd_st K1 D1 (pd_RF q) J n1)) ∧ (∀ d, 100 ≤ d → mm_ev xs Ls pd_ck pd_ak pd_mj d jr ar (pd_st K1 D1 (pd_RF q) J n1) = some (.inl none, pd_st K2 D2 (pd_RF q) J n1)) ∧ K2 43 39 = kk ∧ n1 ≤ n + 1 ∧ Mi q K2 D2
def CallD (xs : Nat → Int32) (Ls : Nat) (q : Nat → Nat) (K : pd_I) (D : pd_D) (J : pd_J) (n : Nat) (jc : Nat) (ac : List Value) (jr : Nat) (ar : List Value) : Prop := ∃ kk b K1 D1 n1 K2 D2, (∀ d, 100 ≤ d → mm_ev xs Ls pd_ck pd_ak pd_mj d jc ac (pd_st K D (pd_RF q) J n) = some (.inl (some (.int kk)), pd_st K1 D1 (pd_RF q) J n1)) ∧ (∀ d, 100 ≤ d → mm_ev xs Ls pd_ck pd_ak pd_mj d jr ar (pd_st K1 D1 (pd_RF q) J n1) = some (.inl (some (.double b)), pd_st K2 D2 (pd_RF q) J n1)) ∧ K2 43 39 = kk ∧ (kk = 0 → D2 67 0 = b) ∧ n1 ≤ n + 1 ∧ Mi q K2 D2
section CD
variable {xs : Nat → Int32} {Ls : Nat} {J Jr : pd_J} {n nr : Nat} {K K' K1 K2 : pd_I} {D D' : pd_D} {q q1 : Nat → Nat} {c m : Nat} {e : Int64} {v : UInt64}
theorem call_tape {m : Int32} (h : Mi q K D) : CallN xs Ls q K D J n 130 [.ref (0 : Nat), .long e, .int m] 113 [.ref (43 : Nat), .long e, .int m] := by
  cases hm : isTp m
  · exact ⟨1, K, D, n + 1, mm_u K 43 39 1, D, fun d hd => h130t (by omega) (fun d' _ => ev6n (by omega) hm), fun d hd => ev113n (by omega) hm, mm_u_s _ _ _ _, Nat.le_refl _, h.t39⟩
  · obtain ⟨m, m1, m16, rfl⟩ := isTp_n hm
    have g24 := tpL_get (e := e) (b := 24) m 0 K
    have g52 := tpL_get (e := e) (b := 52) m 0 (mm_u (mm_u (tpL e 24 m 0 K) 23 1 (Int32.ofNat m)) 43 39 0)
    have ec : ∀ b z, b ≠ 23 → b ≠ 24 → (mm_u (tpL e 24 m 0 K) 23 1 (Int32.ofNat m)) b z = K b z := fun b z h1 h2 => by rw [mm_u_a h1, g24, if_neg (fun h => h2 h.1)]
    have e2 : ∀ b z, b ≠ 43 → b ≠ 52 → (mm_u (tpL e 52 m 0 (mm_u (mm_u (tpL e 24 m 0 K) 23 1 (Int32.ofNat m)) 43 39 0)) 43 18 (Int32.ofNat m)) b z = (mm_u (tpL e 24 m 0 K) 23 1 (Int32.ofNat m)) b z := fun b z h1 h2 => by rw [mm_u_a h1, g52, if_neg (fun h => h2 h.1), mm_u_a h1]
    have e43 : ∀ z, z ≠ 18 → z ≠ 39 → (mm_u (tpL e 52 m 0 (mm_u (mm_u (tpL e 24 m 0 K) 23 1 (Int32.ofNat m)) 43 39 0)) 43 18 (Int32.ofNat m)) 43 z = K 43 z := fun z h1 h2 => by rw [mm_u_k h1, g52, if_neg (by omega), mm_u_k h2, ec _ _ (by decide) (by decide)]
    have eb : ∀ b z, b ≠ 43 → b ≠ 52 → b ≠ 23 → b ≠ 24 → (mm_u (tpL e 52 m 0 (mm_u (mm_u (tpL e 24 m 0 K) 23 1 (Int32.ofNat m)) 43 39 0)) 43 18 (Int32.ofNat m)) b z = K b z := fun b z h1 h2 h3 h4 => by rw [e2 _ _ h1 h2, ec _ _ h3 h4]
    refine ⟨0, _, D, n, mm_u (tpL e 52 m 0 (mm_u (mm_u (tpL e 24 m 0 K) 23 1 (Int32.ofNat m)) 43 39 0)) 43 18 (Int32.ofNat m), D, fun d hd => h130s (by omega) (fun d' _ => ev6s (by omega) m1 m16), fun d hd => ev113s (by omega) m1 m16, ?_, by omega, ?_⟩
    · rw [mm_u_k (by decide), g52, if_neg (by omega), mm_u_s]
    · obtain ⟨v, ⟨w, w1, w2, w3, w4⟩, g1, g2, g3, g4, g5⟩ := h.fw
      obtain ⟨l, l1, l2, l3, l4, l5⟩ := h.ta
      obtain ⟨t, t1, t2, t3, t4⟩ := h.ti
      refine ⟨h.qo, ⟨t, by rw [eb _ _ (by decide) (by decide) (by decide) (by decide)]; exact t1, by rw [e43 _ (by decide) (by decide)]; exact t2, t3, fun k hk => by rw [eb _ _ (by decide) (by decide) (by decide) (by decide), eb _ _ (by decide) (by decide) (by decide) (by decide)]; exact t4 k hk⟩, by rw [eb _ _ (by decide) (by decide) (by decide) (by decide), e43 _ (by decide) (by decide)]; exact h.pl, ⟨m, by omega, m16, by rw [e2 _ _ (by decide) (by decide), mm_u_s], by rw [mm_u_s], fun j hj => ?_⟩, fun k hk => ?_, fun k hk h48 => ?_, ⟨v, ⟨w, w1, by rw [eb _ _ (by decide) (by decide) (by decide) (by decide)]; exact w2, by rw [e43 _ (by decide) (by decide)]; exact w3, w4⟩, by rw [eb _ _ (by decide) (by decide) (by decide) (by decide), e43 _ (by decide) (by decide)]; exact g1, by rw [eb _ _ (by decide) (by decide) (by decide) (by decide), e43 _ (by decide) (by decide)]; exact g2, by rw [eb _ _ (by decide) (by decide) (by decide) (by decide), e43 _ (by decide) (by decide)]; exact g3, by rw [eb _ _ (by decide) (by decide) (by decide) (by decide), e43 _ (by decide) (by decide)]; exact g4, fun i hi => by rw [eb _ _ (by decide) (by decide) (by decide) (by decide), eb _ _ (by decide) (by decide) (by decide) (by decide)]; exact g5 i hi⟩⟩
      · have a24 : (mm_u (tpL e 52 m 0 (mm_u (mm_u (tpL e 24 m 0 K) 23 1 (Int32.ofNat m)) 43 39 0)) 43 18 (Int32.ofNat m)) 24 j = if j < m then hby e (Int32.ofNat j) else K 24 j := by
          rw [e2 _ _ (by decide) (by decide), mm_u_a (by decide), g24]
          by_cases k : j < m
          · rw [if_pos k, if_pos ⟨rfl, by omega, by omega⟩]
          · rw [if_neg k, if_neg (by omega)]
        have a52 : (mm_u (tpL e 52 m 0 (mm_u (mm_u (tpL e 24 m 0 K) 23 1 (Int32.ofNat m)) 43 39 0)) 43 18 (Int32.ofNat m)) 52 j = if j < m then hby e (Int32.ofNat j) else K 52 j := by
          rw [mm_u_a (by decide), g52]
          by_cases k : j < m
          · rw [if_pos k, if_pos ⟨rfl, by omega, by omega⟩]
          · rw [if_neg k, if_neg (by omega), mm_u_a (by decide), ec _ _ (by decide) (by decide)]
        rw [a24, a52]
        by_cases k : j < m
        · rw [if_pos k, if_pos k]; exact ⟨rfl, hby_n _⟩
        · rw [if_neg k, if_neg k]; exact l5 j hj
      · obtain ⟨b1, _⟩ := cO_b (h.qo.1 k (by omega))
        rw [eb _ _ (by omega) (by omega) (by omega) (by omega), eb _ _ (by decide) (by decide) (by decide) (by decide)]
        exact h.th k hk
      · rw [eb _ _ (by decide) (by decide) (by decide) (by decide)] at h48
        obtain ⟨N, m', n1, n2⟩ := h.cd k hk h48
        obtain ⟨b1, b2, b3⟩ := cO_b (h.qo.1 k (by omega))
        refine ⟨N, m', by rw [eb _ _ (by omega) (by omega) (by omega) (by omega)]; exact n1, n2.congr (fun l _ => ⟨eb _ _ (by decide) (by decide) (by decide) (by decide), eb _ _ (by decide) (by decide) (by decide) (by decide), eb _ _ (by decide) (by decide) (by decide) (by decide)⟩) (fun z _ => ⟨eb _ _ (by omega) (by omega) (by omega) (by omega), eb _ _ (by omega) (by omega) (by omega) (by omega)⟩)⟩
/-- other numbers, the same rows -/
theorem Mi.dd (h : Mi q K D) (hv : VR D' D') (hw : ∀ l, l < 12 → D' 26 l = D 26 l ∧ D' 54 l = D 54 l) : Mi q K D' := by
  obtain ⟨v, ⟨w, w1, w2, w3, w4⟩, g1, g2, g3, g4, g5⟩ := h.fw
  exact ⟨h.qo, h.ti, h.pl, h.ta, h.th, h.cd, ⟨hv, ⟨w, w1, w2, w3, fun l hl => by rw [(hw l (by omega)).1, (hw l (by omega)).2]; exact w4 l hl⟩, g1, g2, g3, g4, g5⟩⟩
theorem Mi.d67 (h : Mi q K D) : Mi q K (mm_u D 67 0 v) := h.dd (fun j hj => by rw [mm_u_a (by decide), mm_u_a (by decide)]; exact h.fw.v j hj) (fun l _ => ⟨mm_u_a (by decide), mm_u_a (by decide)⟩)
theorem call_var {k : Int32} (h : Mi q K D) : CallD xs Ls q K D J n 132 [.ref (0 : Nat), .int k, .ref (67 : Nat)] 124 [.ref (43 : Nat), .int k] := by
  cases hk : isVa k
  · exact ⟨1, _, K, D, n + 1, mm_u K 43 39 1, D, fun d hd => h132t (by omega) (fun d' _ => ev9n (by omega) hk), fun d hd => ev124n (by omega) hk, mm_u_s _ _ _ _, fun h => absurd h (by decide), Nat.le_refl _, h.t39⟩
  · obtain ⟨k, k11, rfl⟩ := isVa_n hk
    refine ⟨0, _, K, _, n, mm_u K 43 39 0, _, fun d hd => h132s (by omega) (fun d' _ => ev9s (by omega) k11), fun d hd => ev124s (by omega) k11, mm_u_s _ _ _ _, fun _ => ?_, by omega, h.d67.t39⟩
    rw [mm_u_s, mm_u_a (by decide)]
    exact (h.fw.v k k11).1
theorem call_wri {k : Int32} (h : Mi q K D) : CallD xs Ls q K D J n 134 [.ref (0 : Nat), .int k, .ref (67 : Nat)] 126 [.ref (43 : Nat), .int k] := by
  obtain ⟨w, w1, w2, w3, w4⟩ := h.fw.w
  by_cases hk : k < 0 ∨ K 6 5 ≤ k
  · exact ⟨1, _, K, D, n + 1, mm_u K 43 39 1, D, fun d hd => h134t (by omega) (fun d' _ => ev11n (by omega) hk), fun d hd => ev126n (by omega) (by rw [w3, ← w2]; exact hk), mm_u_s _ _ _ _, fun h => absurd h (by decide), Nat.le_refl _, h.t39⟩
  · have h0 : ¬ (k < 0) := fun h => hk (Or.inl h)
    have h1 : k < K 6 5 := Int32.not_le.mp (fun h => hk (Or.inr h))
    obtain ⟨j, hj, rfl⟩ : ∃ j, j < w ∧ k = Int32.ofNat j := by
      rw [w2] at h1
      rw [Int32.lt_iff_toInt_lt, show (0 : Int32).toInt = 0 from rfl] at h0
      rw [Int32.lt_iff_toInt_lt, Int32.toInt_ofNat_of_lt (by omega)] at h1
      refine ⟨k.toInt.toNat, by omega, ?_⟩
      apply Int32.toInt_inj.mp
      rw [Int32.toInt_ofNat_of_lt (by omega)]
      omega
    refine ⟨0, _, K, _, n, mm_u K 43 39 0, _, fun d hd => h134s (by omega) (fun d' _ => ev11s (by omega) (by omega) h1), fun d hd => ev126s (by omega) (by omega) (by rw [w3, ← w2]; exact h1), mm_u_s _ _ _ _, fun _ => ?_, by omega, h.d67.t39⟩
    rw [mm_u_s, mm_u_a (by decide)]
    exact w4 j hj
theorem call_set {k : Int32} (h : Mi q K D) (hf : inR v → FP.Core.DFin v) : CallN xs Ls q K D J n 133 [.ref (0 : Nat), .int k, .double v] 125 [.ref (43 : Nat), .int k, .double v] := by
  by_cases hb : isVa k = false ∨ ¬ inR v
  · exact ⟨1, K, D, n + 1, mm_u K 43 39 1, D, fun d hd => h133t (by omega) (fun d' _ => ev10n (by omega) hb), fun d hd => ev125n (by omega) hb, mm_u_s _ _ _ _, Nat.le_refl _, h.t39⟩
  · have hk : isVa k = true := by cases e : isVa k; exact absurd (Or.inl e) hb; rfl
    have hv : inR v := Classical.byContradiction (fun h => hb (Or.inr h))
    obtain ⟨k, k11, rfl⟩ := isVa_n hk
    have hd2 : ∀ (t : Nat) (x : UInt64), kd t x x → t ≤ 1 → (isR (Int32.ofNat k) = false → t = 0) → Mi q K (mm_u (mm_u D 21 k x) 53 k x) := fun t x h1 h2 h3 => by
      refine h.dd (fun j hj => ?_) (fun l _ => ⟨by rw [mm_u_a (by decide), mm_u_a (by decide)], by rw [mm_u_a (by decide), mm_u_a (by decide)]⟩)
      have := VR.set (k := k) h.fw.v h1 h2 h3 j hj
      have e21 : (mm_u (mm_u D 21 k x) 53 k x) 21 j = (mm_u D 21 k x) 21 j := mm_u_a (by decide)
      have e53 : (mm_u (mm_u D 21 k x) 53 k x) 53 j = (mm_u D 53 k x) 53 j := by
        by_cases e : j = k
        · rw [e, mm_u_s, mm_u_s]
        · rw [mm_u_k e, mm_u_k e, mm_u_k e]
      rw [e21, e53]
      exact this
    rcases isR_k k11 with ⟨r1, r2, r3⟩ | ⟨r1, r2⟩
    · exact ⟨0, K, _, n, mm_u K 43 39 0, _, fun d hd => h133s (by omega) (fun d' _ => ev10r (by omega) k11 r1 hv), fun d hd => ev125r (by omega) ⟨r2, r3⟩ hv, mm_u_s _ _ _ _, by omega, (hd2 1 v (Or.inr (Or.inl ⟨rfl, rfl, hf hv⟩)) (by omega) (fun h => by rw [r1] at h; cases h)).t39⟩
    · by_cases hw : cmL (FP.i2d (FP.d2i v)) v = 0
      · exact ⟨0, K, _, n, mm_u K 43 39 0, _, fun d hd => h133s (by omega) (fun d' _ => ev10i (by omega) k11 r1 hv hw), fun d hd => ev125i (by omega) r2 k11 hv (cm_sym.mp hw), mm_u_s _ _ _ _, by omega, (hd2 0 _ (Or.inl ⟨rfl, _, rfl, rfl⟩) (by omega) (fun _ => rfl)).t39⟩
      · exact ⟨1, K, D, n + 1, mm_u K 43 39 1, D, fun d hd => h133t (by omega) (fun d' _ => ev10w (by omega) k11 r1 hv hw), fun d hd => ev125w (by omega) r2 k11 hv (fun h => hw (cm_sym.mpr h)), mm_u_s _ _ _ _, Nat.le_refl _, h.t39⟩
theorem cn48_c {g g' : Nat → Int32} : ∀ (f p : Nat), (∀ r, p ≤ r → r < p + f → ((g r = 0) ↔ (g' r = 0))) → cn48 g f p = cn48 g' f p := by
  intro f
  induction f with
  | zero => intro p _; rfl
  | succ f ih =>
    intro p h
    unfold cn48
    rw [ih (p + 1) (fun r h1 h2 => h r (by omega) (by omega))]
    by_cases k : g' p = 0
    · rw [if_pos k, if_pos ((h p (by omega) (by omega)).mpr k)]
    · rw [if_neg k, if_neg (fun k2 => k ((h p (by omega) (by omega)).mp k2))]
theorem cnt_eq {w : Int32} (h : Mi q K D) : cnV w (clV K q) = cnV w (rfV K) := by
  have e : clV K q = rfV K := by
    obtain ⟨v, ⟨w, w1, w2, w3, w4⟩, g1, g2, g3, g4, g5⟩ := h.fw
    obtain ⟨l, l1, l2, _⟩ := h.ti
    funext i
    match i with
    | 0 => exact h.pl
    | 1 => exact l1.trans l2.symm
    | 2 => exact congrArg Int32.ofNat (cn48_c 4 0 (fun r _ hr => h.th r (by omega)))
    | 3 => exact g1
    | 4 => exact w2.trans w3.symm
    | 5 => exact g5 0 (by omega)
    | 6 => exact g5 1 (by omega)
    | 7 => exact g2
    | 8 => exact g3
    | _ + 9 => exact g4
  rw [e]
end CD
