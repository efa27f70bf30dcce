/-! BOTH: the call of run -/
/-- a call that answers an int, on both sides -/
def CallI (xs : Nat → Int32) (Ls : Nat) (q : Nat → Nat) (K : pd_I) (D : pd_D) (J : pd_J) (n : Nat) (jc : Nat) (ac : List Value) (jr : Nat) (ar : List Value) : Prop := ∃ kk b K1 D1 q1 J1 n1 K2 D2, (∀ d, 100 ≤ d → mm_ev xs Ls pd_ck pd_ak pd_mj d jc ac (pd_st K D (pd_RF q) J n) = some (.inl (some (.int kk)), pd_st K1 D1 (pd_RF q1) J1 n1)) ∧ (∀ d, 100 ≤ d → mm_ev xs Ls pd_ck pd_ak pd_mj d jr ar (pd_st K1 D1 (pd_RF q1) J1 n1) = some (.inl (some (.int b)), pd_st K2 D2 (pd_RF q1) J1 n1)) ∧ K2 43 39 = kk ∧ (kk = 0 → J1 66 0 = b.toInt64) ∧ n1 ≤ n + 1 ∧ Mi q1 K2 D2
section CA
variable {xs : Nat → Int32} {Ls : Nat} {J Jr : pd_J} {n nr : Nat} {X : Cx} {Kc Kr Kr' Kr2 K K' K1 K2 K3 : pd_I} {Dc Dc' Dr Dr' Dr2 D D' D1 D2 D3 : pd_D} {q : Nat → Nat} {k : Nat} {f s : Int32}
theorem run_pr (h : Mq q Kc Dc Kr Dr) (hk : k < 4) (hf : isSe f = true) (hs : isSe s = true) (ht : Kr 48 k ≠ 0) : ∃ r n' K' D' K3 D3, OuR r n n' K' K3 ∧ (∀ d, 9 ≤ d → mm_ev xs Ls pd_ck pd_ak pd_mj d 50 [.ref (6 : Nat), .int (Int32.ofNat k), .int f, .int s] (pd_st Kc Dc (pd_RF q) J n) = some (r, pd_st K' D' (pd_RF q) J n')) ∧ (∀ d, 6 ≤ d → mm_ev xs Ls pd_ck pd_ak pd_mj d 114 [.ref (43 : Nat), .int (Int32.ofNat k), .int f, .int s] (pd_st Kr Dr (pd_RF q) Jr nr) = some (.inl (some (.int (if K3 43 39 = 0 then K3 43 34 else 0))), pd_st K3 D3 (pd_RF q) Jr nr)) ∧ Fw K' D' K3 D3 ∧ FoC Kc K' ∧ FdC Dc D' ∧ FoR Kr K3 ∧ FdR Dr D3 := by
  have hcd : ∀ k, ∃ p : Nat × Nat, k < 4 → Kr 48 k ≠ 0 → Kc (q k) 2 = Int32.ofNat p.1 ∧ Cok (fun l => Kr 45 (k * 128 + l)) (fun l => Kr 46 (k * 128 + l)) (fun l => Kr 47 (k * 128 + l)) (Kc (q k + 1)) (Kc (q k + 2)) p.1 p.2 := by
    intro k
    by_cases h1 : k < 4 ∧ Kr 48 k ≠ 0
    · obtain ⟨N, m, n1, n2⟩ := h.cd k h1.1 h1.2
      exact ⟨(N, m), fun _ _ => ⟨n1, n2⟩⟩
    · exact ⟨(0, 0), fun a b => absurd ⟨a, b⟩ h1⟩
  have hg := fun k => Classical.choose_spec (hcd k)
  generalize hG : (fun k => Classical.choose (hcd k)) = g at hg
  have hg' : ∀ k, k < 4 → Kr 48 k ≠ 0 → Kc (q k) 2 = Int32.ofNat (g k).1 ∧ Cok (fun l => Kr 45 (k * 128 + l)) (fun l => Kr 46 (k * 128 + l)) (fun l => Kr 47 (k * 128 + l)) (Kc (q k + 1)) (Kc (q k + 2)) (g k).1 (g k).2 := fun k => by rw [← hG]; exact hg k
  obtain ⟨l, l1, l2, l3, l4, l5⟩ := h.ta
  have hX : XOk (fun k => (g k).1, fun k => (g k).2, fun k => Kc (q k + 1), fun k => Kc (q k + 2), Kr 45, Kr 46, Kr 47, Kr 48) := fun k hk h48 => (hg' k hk h48).2
  have hC : Cc (fun k => (g k).1, fun k => (g k).2, fun k => Kc (q k + 1), fun k => Kc (q k + 2), Kr 45, Kr 46, Kr 47, Kr 48) q Kc := fun k hk => ⟨h.qo.1 k (by omega), fun h48 => ⟨(hg' k hk h48).1, rfl, rfl⟩, h.th k hk⟩
  obtain ⟨hI, f1, f2⟩ := iv_st (f := f) (s := s) hX hk (show Kr 48 k ≠ 0 from ht) hC ⟨rfl, rfl, rfl, rfl⟩ h.fw.v l1 l2 l3 l4 l5
  obtain ⟨r, n', K', D', K3, D3, i1, i2, i3, i4, i5, i6, i7, i8⟩ := run_c (xs := xs) (Ls := Ls) (J := J) (n := n) (Jr := Jr) (nr := nr) (k := Int32.ofNat k) (f := f) (g := s) hX 200 0 _ _ _ _ _ _ _ _ (by omega) hI
  exact ⟨r, n', K', D', K3, D3, i1, fun d hd => ev50 hd (fun d hd => i2 d hd), fun d hd => ev114c hd hk hf hs ht i3, i4, f1.tr i5, i6, f2.tr i7, i8⟩
theorem Mq.rf (h : Mq q Kc Dc Kr Dr) (hr : rfE Kr Kr') (h53 : Dr' 53 = Dr 53) (h54 : Dr' 54 = Dr 54) : Mq q Kc Dc Kr' Dr' := by
  obtain ⟨v, ⟨w, w1, w2, w3, w4⟩, g1, g2, g3, g4, g5⟩ := h.fw
  have h43 := hr 43 (by omega)
  refine ⟨h.qo, ?_, by rw [h43]; exact h.pl, ?_, fun k hk => by rw [hr 48 (by omega)]; exact h.th k hk, fun k hk h48 => ?_, ⟨fun j hj => by rw [h53]; exact v j hj, ⟨w, w1, w2, by rw [h43]; exact w3, fun l hl => by rw [h54]; exact w4 l hl⟩, by rw [h43]; exact g1, by rw [h43]; exact g2, by rw [h43]; exact g3, by rw [h43]; exact g4, fun i hi => by rw [hr 56 (by omega)]; exact g5 i hi⟩⟩
  · obtain ⟨l, l1, l2, l3, l4⟩ := h.ti
    exact ⟨l, l1, by rw [h43]; exact l2, l3, fun k hk => by rw [hr 44 (by omega)]; exact l4 k hk⟩
  · obtain ⟨l, l1, l2, l3, l4, l5⟩ := h.ta
    exact ⟨l, l1, l2, l3, by rw [h43]; exact l4, fun j hj => by rw [hr 52 (by omega)]; exact l5 j hj⟩
  · rw [hr 48 (by omega)] at h48
    rw [hr 45 (by omega), hr 46 (by omega), hr 47 (by omega)]
    exact h.cd k hk h48
theorem isPr_of {k : Int32} (h : isPr k = true) : ∃ j, j < 4 ∧ k = Int32.ofNat j := isPr_nat h
theorem pd_st_in {r r' : Option Value ⊕ Nat} {A A' : pd_A} {J' : pd_J} {n' : Nat} (h : some (r, pd_st K D A J n) = some (r', pd_st K' D' A' J' n')) : r = r' ∧ K = K' ∧ D = D' ∧ n = n' := by
  have h1 := Option.some.inj h
  have h2 := (Prod.mk.inj h1).2
  have h3 := (Prod.mk.inj h2).2
  obtain ⟨h4, h5⟩ := Prod.mk.inj h3
  obtain ⟨h6, h7⟩ := Prod.mk.inj h4
  exact ⟨(Prod.mk.inj h1).1, h6, (Prod.mk.inj h7).1, h5⟩
theorem ter_rn {e E : Nat} (h : ter e E) : rn1 E = Int32.ofNat e ∧ E < 5 ∧ rn1 E ≠ 0 := by
  rcases h with ⟨rfl, rfl⟩ | ⟨rfl, rfl⟩ | ⟨rfl, rfl⟩ | ⟨rfl, rfl⟩ <;> exact ⟨rfl, by omega, by decide⟩
theorem call_run {k f s : Int32} (h : Mi q K D) : CallI xs Ls q K D J n 131 [.ref (0 : Nat), .int k, .int f, .int s, .ref (66 : Nat)] 114 [.ref (43 : Nat), .int k, .int f, .int s] := by
  by_cases hb : isPr k = false ∨ isSe f = false ∨ isSe s = false
  · exact ⟨rn1 0, 0, K, D, q, J, n + 1, mm_u K 43 39 1, D, fun d hd => h131t (by omega) (by omega) (fun d' e => ev7a (by omega) hb), fun d hd => ev114a (by omega) hb, by rw [mm_u_s]; rfl, fun h => absurd h (by decide), Nat.le_refl _, h.t39⟩
  · have hk : isPr k = true := by cases e : isPr k; exact absurd (Or.inl e) hb; rfl
    have hf : isSe f = true := by cases e : isSe f; exact absurd (Or.inr (Or.inl e)) hb; rfl
    have hs : isSe s = true := by cases e : isSe s; exact absurd (Or.inr (Or.inr e)) hb; rfl
    obtain ⟨k, k4, rfl⟩ := isPr_of hk
    have hq := h.qo.1 k (by omega)
    by_cases ht : K 48 k = 0
    · exact ⟨rn1 2, 0, K, D, q, J, n + 1, mm_u K 43 39 2, D, fun d hd => h131t (by omega) (by omega) (fun d' e => ev7b (by omega) k4 hf hs hq ((h.th k k4).mpr ht)), fun d hd => ev114b (by omega) k4 hf hs ht, by rw [mm_u_s]; rfl, fun h => absurd h (by decide), Nat.le_refl _, h.t39⟩
    · have ht' : K (q k) 4 ≠ 0 := fun h9 => ht ((h.th k k4).mp h9)
      obtain ⟨r, n', K', D', _, _, a1, a2, _, _, a5, a6, _, _⟩ := run_pr (xs := xs) (Ls := Ls) (J := J) (n := n) (Jr := J) (nr := n) h k4 hf hs ht
      have hrf : rfE K K' := fun b hb => by funext z; exact a5 b z (Or.inr (Or.inr (Or.inr (by omega)))) (by omega)
      have hm2 : Mq q K D K' D' := h.rf hrf (a6 53 (by omega) (by omega) (by omega)) (a6 54 (by omega) (by omega) (by omega))
      have ht2 : K' 48 k ≠ 0 := by rw [hrf 48 (by omega)]; exact ht
      have fin : ∀ J1 n1, ∃ K3 D3, OuR r n n' K' K3 ∧ (∀ d, 6 ≤ d → mm_ev xs Ls pd_ck pd_ak pd_mj d 114 [.ref (43 : Nat), .int (Int32.ofNat k), .int f, .int s] (pd_st K' D' (pd_RF q) J1 n1) = some (.inl (some (.int (if K3 43 39 = 0 then K3 43 34 else 0))), pd_st K3 D3 (pd_RF q) J1 n1)) ∧ K' 6 6 = K3 43 34 ∧ Mi q K3 D3 := by
        intro J1 n1
        obtain ⟨r2, n2, K2, D2, K3, D3, b1, b2, b3, b4, b5, b6, b7, b8⟩ := run_pr (xs := xs) (Ls := Ls) (J := J) (n := n) (Jr := J1) (nr := n1) hm2 k4 hf hs ht2
        have e := (a2 9 (by omega)).symm.trans (b2 9 (by omega))
        obtain ⟨rfl, rfl, rfl, rfl⟩ := pd_st_in e
        exact ⟨K3, D3, b1, b3, b4.st, (hm2.fr b5 b7 b4).one (fun b hb => by funext z; exact b7 b z (Or.inl hb) (by omega)) (b8 21 (by omega) (by omega) (by omega)) (b8 26 (by omega) (by omega) (by omega))⟩
      rcases a1 with ⟨rfl, rfl, _⟩ | ⟨e, E, t1, rfl, rfl, t2⟩
      · obtain ⟨K3, D3, c1, c2, c3, c4⟩ := fin (mm_u J 66 0 (K' 6 6).toInt64) n'
        rcases c1 with ⟨_, _, c5⟩ | ⟨_, _, _, c6, _⟩
        · refine ⟨0, _, K', D', q, _, n', K3, D3, fun d hd => h131s (by omega) (fun d' e => ev7c (by omega) k4 hf hs hq ht' (Or.inl ⟨_, rfl⟩) a2), fun d hd => c2 d (by omega), c5, fun _ => ?_, by omega, c4⟩
          rw [mm_u_s, if_pos c5, c3]
        · cases c6
      · obtain ⟨K3, D3, c1, c2, c3, c4⟩ := fin J (n + 1)
        obtain ⟨g1, g2, g3⟩ := ter_rn t1
        rcases c1 with ⟨c6, _⟩ | ⟨e', E', u1, u2, _, u3⟩
        · cases c6
        · have : E = E' := by cases u2; rfl
          subst this
          refine ⟨rn1 E, _, K', D', q, J, n + 1, K3, D3, fun d hd => h131t g2 (by omega) (fun d' e => ev7c (by omega) k4 hf hs hq ht' (Or.inr ⟨_, rfl⟩) a2), fun d hd => c2 d (by omega), ?_, fun h => absurd h g3, Nat.le_refl _, c4⟩
          rw [u3, (ter_rn u1).1]
end CA
