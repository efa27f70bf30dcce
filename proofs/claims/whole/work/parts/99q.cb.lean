/-! BOTH: the calls of type and compile -/
section CB
variable {xs : Nat → Int32} {Ls : Nat} {J Jr : pd_J} {n nr : Nat} {K K' K1 K2 : pd_I} {D D' : pd_D} {q q1 : Nat → Nat} {k c m : Nat} {e : Int64}
/-- the texts and the code change -/
theorem Mi.cp (h : Mi q K D) (hq1 : pd_qO q1) (hT : ∃ l, Tin K2 l) (hpl : K2 0 2 = K2 43 9) (hA : ∀ b z, b = 6 ∨ b = 23 ∨ b = 24 ∨ b = 25 → K2 b z = K b z) (hR : ∀ z, z = 18 ∨ (34 ≤ z ∧ z ≤ 38) → K2 43 z = K 43 z) (hR2 : ∀ b z, b = 52 ∨ b = 56 → K2 b z = K b z) (hth : ∀ k, k < 4 → ((K2 (q1 k) 4 = 0) ↔ (K2 48 k = 0))) (hcd : ∀ k, k < 4 → K2 48 k ≠ 0 → ∃ N m, K2 (q1 k) 2 = Int32.ofNat N ∧ Cok (fun l => K2 45 (k * 128 + l)) (fun l => K2 46 (k * 128 + l)) (fun l => K2 47 (k * 128 + l)) (K2 (q1 k + 1)) (K2 (q1 k + 2)) N m) : Mi q1 K2 D := by
  obtain ⟨v, ⟨w, w1, w2, w3, w4⟩, g1, g2, g3, g4, g5⟩ := h.fw
  obtain ⟨l, l1, l2, l3, l4, l5⟩ := h.ta
  refine ⟨hq1, hT, hpl, ⟨l, l1, l2, by rw [hA _ _ (by omega)]; exact l3, by rw [hR _ (by omega)]; exact l4, fun j hj => by rw [hA _ _ (by omega), hR2 _ _ (by omega)]; exact l5 j hj⟩, hth, hcd, ⟨v, ⟨w, w1, by rw [hA _ _ (by omega)]; exact w2, by rw [hR _ (by omega)]; exact w3, w4⟩, by rw [hA _ _ (by omega), hR _ (by omega)]; exact g1, by rw [hA _ _ (by omega), hR _ (by omega)]; exact g2, by rw [hA _ _ (by omega), hR _ (by omega)]; exact g3, by rw [hA _ _ (by omega), hR _ (by omega)]; exact g4, fun i hi => by rw [hA _ _ (by omega), hR2 _ _ (by omega)]; exact g5 i hi⟩⟩
theorem call_type (h : Mi q K D) : CallI xs Ls q K D J n 128 [.ref (0 : Nat), .long e, .ref (66 : Nat)] 93 [.ref (43 : Nat), .long e] := by
  obtain ⟨l, hl⟩ := h.ti
  obtain ⟨l1, l2, l3, l4⟩ := hl
  have hc := fun d (hd : 2 ≤ d) => ev2 (xs := xs) (Ls := Ls) (q := q) (D := D) (J := J) (n := n) (d := d) (K := K) (e := e) hd l3 l1
  have uu : ∀ (K : pd_I) (v : Int32), mm_u (mm_u K 43 39 0) 43 39 v = mm_u K 43 39 v := fun K v => mm_uu
  cases hb : (tyA e 8 (0, false)).2
  · rw [hb, if_neg (by decide)] at hc
    by_cases ho : 48 < l + (tyA e 8 (0, false)).1
    · rw [if_pos ho] at hc
      refine ⟨ty1 1, 0, K, D, q, J, n + 1, mm_u K 43 39 2, D, fun d hd => h128t (Or.inr rfl) (by omega) (fun d' _ => hc d' (by omega)), fun d hd => ?_, by rw [mm_u_s]; rfl, fun h => absurd h (by decide), Nat.le_refl _, h.t39⟩
      have := ev93 (xs := xs) (Ls := Ls) (q := q) (D := D) (J := J) (n := n + 1) (d := d) (K := K) (e := e) (by omega) l3 l2
      rw [hb, if_neg (by decide), if_pos ho, uu] at this
      exact this
    · rw [if_neg ho] at hc
      have hr := ev93 (xs := xs) (Ls := Ls) (q := q) (D := D) (J := mm_u J 66 0 (Int32.ofNat (tyB e 8 (l, K 2)).1).toInt64) (n := n) (K := tcK K (tyB e 8 (l, K 2))) (e := e) (l := l) (d := 1) (by omega) l3 (by rw [tcK_rf 43 (by omega)]; exact l2)
      rw [hb, if_neg (by decide), if_neg ho, tcK_rf 44 (by omega)] at hr
      have hlen := tyB_len (e := e) 8 0 false (l, K 2)
      have h48 : (tyB e 8 (l, K 2)).1 ≤ 48 := by
        have : (tyB e 8 (l, K 2)).1 + 0 = l + (tyA e 8 (0, false)).1 := hlen
        omega
      obtain ⟨r1, _⟩ := tyB_rel (e := e) 8 0 false (l, K 2) (l, K 44) rfl l4 hb
      have hrf : rfE K (tcK K (tyB e 8 (l, K 2))) := tcK_rf
      have ecl : ∀ b z, b < 43 → txK (mm_u (tcK K (tyB e 8 (l, K 2))) 43 39 0) (tyB e 8 (l, K 44)) b z = tcK K (tyB e 8 (l, K 2)) b z := fun b z hb => by
        rw [txK_cl b hb, mm_u_a (by omega)]
      have erf : ∀ b z, 43 < b → b ≠ 44 → txK (mm_u (tcK K (tyB e 8 (l, K 2))) 43 39 0) (tyB e 8 (l, K 44)) b z = K b z := fun b z h1 h2 => by
        unfold txK
        rw [if_neg h2, if_neg (by omega), mm_u_a (by omega), hrf b (by omega)]
      have e43 : ∀ z, z ≠ 8 → z ≠ 39 → txK (mm_u (tcK K (tyB e 8 (l, K 2))) 43 39 0) (tyB e 8 (l, K 44)) 43 z = K 43 z := fun z h1 h2 => by
        unfold txK
        rw [if_neg (by omega), if_neg (by omega), mm_u_k h2, hrf 43 (by omega)]
      have ec : ∀ b z, b ≠ 1 → b ≠ 2 → tcK K (tyB e 8 (l, K 2)) b z = K b z := fun b z h1 h2 => by
        unfold tcK
        rw [if_neg h2, if_neg (fun h => h1 h.1)]
      have hT : Tin (txK (mm_u (tcK K (tyB e 8 (l, K 2))) 43 39 0) (tyB e 8 (l, K 44))) (tyB e 8 (l, K 2)).1 := Tin.ty (K := K) ⟨l1, l2, l3, l4⟩ hb h48 (by rw [ecl _ _ (by omega)]; rfl) (by funext z; rw [ecl _ _ (by omega)]; rfl) rfl rfl
      refine ⟨0, _, _, D, q, _, n, _, D, fun d hd => h128s (by omega) (fun d' _ => hc d' (by omega)), fun d hd => fu_ev hr (by omega), ?_, fun _ => ?_, by omega, ?_⟩
      · show txK (mm_u (tcK K (tyB e 8 (l, K 2))) 43 39 0) (tyB e 8 (l, K 44)) 43 39 = 0
        unfold txK
        rw [if_neg (by omega), if_neg (by omega), mm_u_s]
      · rw [mm_u_s]
        show (Int32.ofNat (tyB e 8 (l, K 2)).1).toInt64 = (Int32.ofNat (tyB e 8 (l, K 44)).1).toInt64
        rw [r1]
      · refine Mi.cp h h.qo ⟨_, hT⟩ (by rw [ecl _ _ (by omega), ec _ _ (by omega) (by omega), e43 _ (by omega) (by omega)]; exact h.pl) (fun b z hb => by rw [ecl _ _ (by omega), ec _ _ (by omega) (by omega)]) (fun z hz => e43 z (by omega) (by omega)) (fun b z hb => erf b z (by omega) (by omega)) (fun k hk => ?_) (fun k hk h48 => ?_)
        · obtain ⟨b1, _⟩ := cO_b (h.qo.1 k (by omega))
          have n12 : q k ≠ 1 ∧ q k ≠ 2 := by rcases h.qo.1 k (by omega) with h | h | h | h | h <;> rw [h] <;> decide
          rw [ecl _ _ (by omega), ec _ _ n12.1 n12.2, erf _ _ (by omega) (by omega)]
          exact h.th k hk
        · rw [erf _ _ (by omega) (by omega)] at h48
          obtain ⟨N, m, n1, n2⟩ := h.cd k hk h48
          obtain ⟨b1, b2, b3⟩ := cO_b (h.qo.1 k (by omega))
          have n12 : q k ≠ 1 ∧ q k ≠ 2 := by rcases h.qo.1 k (by omega) with h | h | h | h | h <;> rw [h] <;> decide
          have n3 : 3 ≤ q k := by rcases h.qo.1 k (by omega) with h | h | h | h | h <;> rw [h] <;> decide
          refine ⟨N, m, by rw [ecl _ _ (by omega), ec _ _ n12.1 n12.2]; exact n1, n2.congr (fun l _ => ⟨erf _ _ (by omega) (by omega), erf _ _ (by omega) (by omega), erf _ _ (by omega) (by omega)⟩) (fun z _ => ⟨?_, ?_⟩)⟩
          · rw [ecl _ _ (by omega), ec _ _ (by omega) (by omega)]
          · rw [ecl _ _ (by omega), ec _ _ (by omega) (by omega)]
  · rw [hb, if_pos rfl] at hc
    refine ⟨ty1 0, 0, K, D, q, J, n + 1, mm_u K 43 39 1, D, fun d hd => h128t (Or.inl rfl) (by omega) (fun d' _ => hc d' (by omega)), fun d hd => ?_, by rw [mm_u_s]; rfl, fun h => absurd h (by decide), Nat.le_refl _, h.t39⟩
    have := ev93 (xs := xs) (Ls := Ls) (q := q) (D := D) (J := J) (n := n + 1) (d := d) (K := K) (e := e) (by omega) l3 l2
    rw [hb, if_pos rfl, uu] at this
    exact this
theorem rdI_o {b : Nat} (h1 : b ≠ 1) (h2 : b ≠ c) (h3 : b ≠ c + 1) (h4 : b ≠ c + 2) : rdI K c m b = K b := by
  unfold rdI
  rw [mm_u_ag h1]
  funext z
  unfold pd_eP
  rw [if_neg h1, if_neg h2, if_neg h3, if_neg h4, mm_u_a h2]
theorem rdI_c (hc : pd_cO c) : rdI K c m c 2 = Int32.ofNat (pN (rdP K c m)) ∧ rdI K c m (c + 1) = pO (rdP K c m) ∧ rdI K c m (c + 2) = pV (rdP K c m) := by
  have n1 : c ≠ 1 ∧ c + 1 ≠ 1 ∧ c + 2 ≠ 1 := by rcases hc with h | h | h | h | h <;> rw [h] <;> decide
  unfold rdI
  rw [mm_u_a n1.1, mm_u_ag n1.2.1, mm_u_ag n1.2.2]
  refine ⟨?_, ?_, ?_⟩
  · unfold pd_eP
    rw [if_neg n1.1, if_pos rfl, if_pos rfl]
  · funext z
    unfold pd_eP
    rw [if_neg n1.2.1, if_neg (by omega), if_pos rfl]
  · funext z
    unfold pd_eP
    rw [if_neg n1.2.2, if_neg (by omega), if_neg (by omega), if_pos rfl]
theorem cO_ne {a b : Nat} (ha : pd_cO a) (hb : pd_cO b) (h : a ≠ b) : (a ≠ b ∧ a ≠ b + 1 ∧ a ≠ b + 2) ∧ (a + 1 ≠ b ∧ a + 1 ≠ b + 1 ∧ a + 1 ≠ b + 2) ∧ (a + 2 ≠ b ∧ a + 2 ≠ b + 1 ∧ a + 2 ≠ b + 2) := by
  rcases ha with rfl | rfl | rfl | rfl | rfl <;> rcases hb with rfl | rfl | rfl | rfl | rfl <;> omega
theorem qO_sw (hq : pd_qO q) (hk : k < 4) : pd_qO (pd_up (pd_up q k (q 4)) 4 (q k)) := by
  have e : ∀ i, pd_up (pd_up q k (q 4)) 4 (q k) i = q (if i = 4 then k else if i = k then 4 else i) := by
    intro i
    unfold pd_up
    by_cases h1 : i = 4
    · rw [if_pos h1, if_pos h1]
    · rw [if_neg h1, if_neg h1]
      by_cases h2 : i = k
      · rw [if_pos h2, if_pos h2]
      · rw [if_neg h2, if_neg h2]
  refine ⟨fun i hi => ?_, fun i j hi hj h => ?_⟩
  · rw [e]
    refine hq.1 _ ?_
    split
    · omega
    · split <;> omega
  · rw [e, e] at h
    have := hq.2 _ _ (by split; omega; split <;> omega) (by split; omega; split <;> omega) h
    by_cases h1 : i = 4
    · rw [if_pos h1] at this
      by_cases h2 : j = 4
      · omega
      · rw [if_neg h2] at this
        by_cases h3 : j = k
        · rw [if_pos h3] at this; omega
        · rw [if_neg h3] at this; omega
    · rw [if_neg h1] at this
      by_cases h4 : i = k
      · rw [if_pos h4] at this
        by_cases h2 : j = 4
        · rw [if_pos h2] at this; omega
        · rw [if_neg h2] at this
          by_cases h3 : j = k
          · omega
          · rw [if_neg h3] at this; omega
      · rw [if_neg h4] at this
        by_cases h2 : j = 4
        · rw [if_pos h2] at this; omega
        · rw [if_neg h2] at this
          by_cases h3 : j = k
          · rw [if_pos h3] at this; omega
          · rw [if_neg h3] at this; exact this
theorem eQ_o2 {Q : pq} {b z : Nat} (h1 : b ≠ 43) (h2 : b ≠ 45) (h3 : b ≠ 46) (h4 : b ≠ 47) (h5 : b ≠ 49) (h6 : b ≠ 50) (h7 : b ≠ 51) : eQ K Q b z = K b z := by
  unfold eQ
  rw [if_neg h1, if_neg h5, if_neg h6, if_neg h7, if_neg h2, if_neg h3, if_neg h4]
theorem eQ_43 {Q : pq} {z : Nat} (h : z < 10 ∨ 16 < z) : eQ K Q 43 z = K 43 z := by
  unfold eQ
  rw [if_pos rfl, if_neg (by omega), if_neg (by omega), if_neg (by omega), if_neg (by omega), if_neg (by omega), if_neg (by omega), if_neg (by omega)]
/-- a text that is refused, or mistyped -/
theorem Mi.no {Q : pq} {p : Nat} (h : Mi q K D) (hrf : rfE K K1) (hcl : ∀ b, b < 43 → b ≠ 0 → b ≠ 1 → b ≠ q 4 → b ≠ q 4 + 1 → b ≠ q 4 + 2 → K1 b = K b) (h11 : K1 1 1 = 0) (h02 : K1 0 2 = Int32.ofNat p) (hL : Lw (q0 K1) Q) : Mi q (mm_u (mm_u (mm_u (eQ (mm_u K1 43 39 0) Q) 43 8 0) 43 9 (Int32.ofNat p)) 43 39 1) D := by
  have ecl : ∀ b z, b < 43 → (mm_u (mm_u (mm_u (eQ (mm_u K1 43 39 0) Q) 43 8 0) 43 9 (Int32.ofNat p)) 43 39 1) b z = K1 b z := fun b z hb => by
    rw [mm_u_a (by omega), mm_u_a (by omega), mm_u_a (by omega), eQ_o2 (by omega) (by omega) (by omega) (by omega) (by omega) (by omega) (by omega), mm_u_a (by omega)]
  have erf : ∀ b z, b = 48 ∨ b = 52 ∨ b = 56 → (mm_u (mm_u (mm_u (eQ (mm_u K1 43 39 0) Q) 43 8 0) 43 9 (Int32.ofNat p)) 43 39 1) b z = K b z := fun b z hb => by
    rw [mm_u_a (by omega), mm_u_a (by omega), mm_u_a (by omega), eQ_o2 (by omega) (by omega) (by omega) (by omega) (by omega) (by omega) (by omega), mm_u_a (by omega), hrf b (by omega)]
  have e43 : ∀ z, z = 18 ∨ (34 ≤ z ∧ z ≤ 38) → (mm_u (mm_u (mm_u (eQ (mm_u K1 43 39 0) Q) 43 8 0) 43 9 (Int32.ofNat p)) 43 39 1) 43 z = K 43 z := fun z hz => by
    rw [mm_u_k (by omega), mm_u_k (by omega), mm_u_k (by omega), eQ_43 (by omega), mm_u_k (by omega), hrf 43 (by omega)]
  have ecd : ∀ b j, b = 45 ∨ b = 46 ∨ b = 47 → j < 512 → (mm_u (mm_u (mm_u (eQ (mm_u K1 43 39 0) Q) 43 8 0) 43 9 (Int32.ofNat p)) 43 39 1) b j = K b j := fun b j hb hj => by
    rw [mm_u_a (by omega), mm_u_a (by omega), mm_u_a (by omega)]
    obtain ⟨a1, a2, a3⟩ := hL j hj
    rcases hb with rfl | rfl | rfl
    · rw [eQ_c, a1, ← hrf 45 (by omega)]; rfl
    · rw [eQ_a, a2, ← hrf 46 (by omega)]; rfl
    · rw [eQ_x, a3, ← hrf 47 (by omega)]; rfl
  have h4 := h.qo.1 4 (by omega)
  have b4 := cO_b h4
  have n4 : q 4 ≠ 1 ∧ q 4 ≠ 0 := by rcases h4 with h | h | h | h | h <;> rw [h] <;> decide
  have kc : ∀ k, k < 4 → (∀ z, K1 (q k) z = K (q k) z) ∧ (∀ z, K1 (q k + 1) z = K (q k + 1) z) ∧ (∀ z, K1 (q k + 2) z = K (q k + 2) z) := fun k hk => by
    have hk' := h.qo.1 k (by omega)
    have bk := cO_b hk'
    have nk : q k ≠ 1 ∧ q k ≠ 0 := by rcases hk' with h | h | h | h | h <;> rw [h] <;> decide
    obtain ⟨c1, c2, c3⟩ := cO_ne hk' h4 (fun e => by have := h.qo.2 k 4 (by omega) (by omega) e; omega)
    exact ⟨fun z => by rw [hcl _ (by omega) nk.2 nk.1 c1.1 c1.2.1 c1.2.2], fun z => by rw [hcl _ (by omega) (by omega) (by omega) c2.1 c2.2.1 c2.2.2], fun z => by rw [hcl _ (by omega) (by omega) (by omega) c3.1 c3.2.1 c3.2.2]⟩
  have na : ∀ b, b = 6 ∨ b = 23 ∨ b = 24 ∨ b = 25 → b ≠ q 4 ∧ b ≠ q 4 + 1 ∧ b ≠ q 4 + 2 := fun b hb => by rcases h4 with h | h | h | h | h <;> rw [h] <;> omega
  refine h.cp h.qo ⟨0, ?_, ?_, by omega, fun k hk => absurd hk (by omega)⟩ ?_ (fun b z hb => ?_) e43 (fun b z hb => erf b z (by omega)) (fun k hk => ?_) (fun k hk h48 => ?_)
  · rw [ecl _ _ (by omega)]; exact h11
  · rw [mm_u_k (by decide), mm_u_k (by decide), mm_u_s]; rfl
  · rw [ecl _ _ (by omega), h02, mm_u_k (by decide), mm_u_s]
  · rw [ecl _ _ (by omega), hcl _ (by omega) (by omega) (by omega) (na b hb).1 (na b hb).2.1 (na b hb).2.2]
  · have bk := cO_b (h.qo.1 k (by omega))
    rw [ecl _ _ (by omega), (kc k hk).1, erf _ _ (by omega)]
    exact h.th k hk
  · have bk := cO_b (h.qo.1 k (by omega))
    rw [erf _ _ (by omega)] at h48
    obtain ⟨N, m, n1, n2⟩ := h.cd k hk h48
    have n9 := n2.n9
    refine ⟨N, m, by rw [ecl _ _ (by omega), (kc k hk).1]; exact n1, n2.congr (fun l hl => ⟨ecd _ _ (by omega) (by omega), ecd _ _ (by omega) (by omega), ecd _ _ (by omega) (by omega)⟩) (fun z _ => ⟨?_, ?_⟩)⟩
    · rw [ecl _ _ (by omega), (kc k hk).2.1]
    · rw [ecl _ _ (by omega), (kc k hk).2.2]
end CB
