/-! BOTH RUNS: a process goes on -/
/-- process i at another place -/
def mvA (A : Nat → Nat → Nat) (i P : Nat) : Nat → Nat → Nat := fun r => if r = i then pd_up (A i) 4 P else A r
section MV
variable {X : Cx} {Kc Kc' Kr Kr' K K' K1 K2 K3 : pd_I} {Dc Dc' Dr Dr' : pd_D} {A B : Nat → Nat → Nat} {q : Nat → Nat} {i p r P ws z h : Nat} {v : Int32}
theorem mvA_i : mvA A i P i = pd_up (A i) 4 P := if_pos rfl
theorem mvA_o (hr : r ≠ i) : mvA A i P r = A r := if_neg hr
theorem mvA_0 : mvA A i P r 0 = A r 0 ∧ mvA A i P r 1 = A r 1 := by
  by_cases e : r = i
  · subst e; rw [mvA_i]; exact ⟨rfl, rfl⟩
  · rw [mvA_o e]; exact ⟨rfl, rfl⟩
theorem mvA_f {f : Nat} (hf : f ≠ 4) : mvA A i P r f = A r f := by
  by_cases e : r = i
  · subst e; rw [mvA_i]; unfold pd_up; rw [if_neg hf]
  · rw [mvA_o e]
theorem Wf.mv (hW : Wf X A) (hP : POk X P) : Wf X (mvA A i P) := by
  refine ⟨hW.1.lc (fun s => mvA_0), fun r hr h0 => ?_⟩
  rw [mvA_0.1] at h0
  obtain ⟨k1, k2, k3, k4⟩ := hW.2 r hr h0
  rw [mvA_0.1, mvA_f (f := 8) (by decide), mvA_f (f := 7) (by decide)]
  refine ⟨k1, ?_, k3, fun l hl => by rw [mvA_f (by omega)]; exact k4 l hl⟩
  by_cases e : r = i
  · subst e; rw [mvA_i]; exact hP
  · rw [mvA_o e]; exact k2
theorem prA_mv : prA (mvA A i P) = prA A := prA_cg (fun s => by rw [mvA_0.1])
theorem stK_S (hi : i < 5) : stK (mm_u K 6 6 v) i z h (28 + 3 * i) = pd_up (K (28 + 3 * i)) 4 (Int32.ofNat z) := by
  unfold stK
  rw [mm_u_ag (by omega), mmu_I, mm_u_ag (by omega)]
theorem stK_O {b : Nat} (h1 : b ≠ 28 + 3 * i) (h2 : b ≠ 20) (h3 : b ≠ 6) : stK (mm_u K 6 6 v) i z h b = K b := by
  unfold stK
  rw [mm_u_ag h2, mm_u_ag h1, mm_u_ag h3]
theorem stK_6 {y : Nat} (hi : i < 5) (hy : y ≠ 6) : stK (mm_u K 6 6 v) i z h 6 y = K 6 y := by
  unfold stK
  rw [mm_u_a (by decide), mm_u_a (by omega), mm_u_k hy]
theorem stK_66 (hi : i < 5) : stK (mm_u K 6 6 v) i z h 6 6 = v := by
  unfold stK
  rw [mm_u_a (by decide), mm_u_a (by omega), mm_u_s]
theorem stK_m (hi : i < 5) : mm_u (stK K i z h) (28 + 3 * i) 4 (Int32.ofNat (z + 1)) = stK K i (z + 1) h := by
  have := stK_n (K := K) (x := z) (h := h) (h' := h) hi
  rw [mm_self (stK_1 hi)] at this
  exact this
theorem stK_t {h' : Nat} (hi : i < 5) : mm_u (stK K i z h) 20 2 (Int32.ofNat h') = stK K i z h' := by
  unfold stK
  rw [mm_uu]
theorem Qc.mv (hQ : Qc X K A) (hi : i < 5) (hP : P / 128 = A i 4 / 128) (hz : AtR X P z) : Qc X (stK (mm_u K 6 6 v) i z h) (mvA A i P) := by
  refine hQ.one (p := i) (fun r hr => mvA_o hr) mvA_0 (fun r _ hr => ⟨stK_O (by omega) (by omega) (by omega), stK_O (by omega) (by omega) (by omega), stK_O (by omega) (by omega) (by omega)⟩) ?_
  rw [stK_S hi, stK_O (by omega) (by omega) (by omega), stK_O (by omega) (by omega) (by omega), mvA_i]
  exact (hQ i hi).at hP hz
theorem Cc.st (hC : Cc X q K) (hi : i < 5) : Cc X q (stK (mm_u K 6 6 v) i z h) := by
  intro k hk
  obtain ⟨h1, h2, h3⟩ := hC k hk
  obtain ⟨⟨a1, a2⟩, ⟨b1, b2⟩, ⟨c1, c2⟩⟩ := cO_n h1 hi
  have n6 : q k ≠ 6 ∧ q k + 1 ≠ 6 ∧ q k + 2 ≠ 6 := by rcases h1 with h | h | h | h | h <;> rw [h] <;> decide
  rw [stK_O a1 a2 n6.1, stK_O b1 b2 n6.2.1, stK_O c1 c2 n6.2.2]
  exact ⟨h1, h2, h3⟩
/-- a step's expression is done, the process goes to P -/
theorem Jv.mv (hJ : Jv X q Kc Dc Kr Dr A ws) (hi : i < 5) (h1 : A i 0 = 1) (hP : POk X P) (hP2 : P / 128 = A i 4 / 128) (hz : AtR X P z) (hD : ∀ b, b ≠ 22 → Dc' b = Dc b) (hDr : ∀ b, b ≠ 55 → Dr' b = Dr b) (hK1 : Fr2 Kr K1) (h39 : K1 43 39 = 0) : Jv X q (stK (mm_u Kc 6 6 v) i z h) Dc' (mm_u K1 58 i (Int32.ofNat P)) Dr' (mvA A i P) ws := by
  have hb : ∀ b y, b ≠ 43 → K1 b y = Kr b y := fun b y hb => hK1 b y (fun h => hb h.1)
  have hb1 : ∀ b, b ≠ 43 → K1 b = Kr b := fun b h => by funext y; exact hb b y h
  have h43 : ∀ y, y ≠ 11 → y ≠ 39 → (mm_u K1 58 i (Int32.ofNat P)) 43 y = Kr 43 y := fun y y1 y2 => by rw [mm_u_a (by decide)]; exact hK1 43 y (by rintro ⟨_, h | h⟩; exact y1 h; exact y2 h)
  have hwt : ∀ r, (A r 0 = 2 → mvA A i P r = A r) ∧ (mvA A i P r 0 = 2 → A r 0 = 2) := fun r => ⟨fun h => mvA_o (by rintro rfl; rw [h1] at h; cases h), fun h => by rw [mvA_0.1] at h; exact h⟩
  refine ⟨hJ.cc.st hi, ?_, hJ.qc.mv hi hP2 hz, ?_, hJ.wf.mv hP, by rw [stK_6 hi (by decide), prA_mv]; exact hJ.lv, by rw [mm_u_a (by decide)]; exact h39, ?_, ?_, by rw [stK_6 hi (by decide), h43 _ (by decide) (by decide)]; exact hJ.bo, ?_, ?_, fun p hp hs => ?_, fun i' hi' => ?_, hJ.ro.cg hwt (h43 _ (by decide) (by decide)) (fun j _ => by rw [mm_u_a (by decide)]; exact hb _ _ (by decide))⟩
  · obtain ⟨c1, c2, c3, c4⟩ := hJ.cr
    exact ⟨by rw [mm_u_ag (by decide), hb1 _ (by decide)]; exact c1, by rw [mm_u_ag (by decide), hb1 _ (by decide)]; exact c2, by rw [mm_u_ag (by decide), hb1 _ (by decide)]; exact c3, by rw [mm_u_ag (by decide), hb1 _ (by decide)]; exact c4⟩
  · have q1 : Qr K1 A := fun r hr => (hJ.qr r hr).cg (hJ.wf.c8 hr) ⟨fun b h => hb b r (by omega), fun l _ => hb _ _ (by decide)⟩
    refine q1.one (p := i) hJ.wf (fun r hr => mvA_o hr) mvA_0 (fun r _ hr => .u (by decide) hr) ?_
    rw [mvA_i]
    exact (q1 i hi).at
  · intro j hj
    rw [hD _ (by decide), hDr _ (by decide)]
    exact hJ.v j hj
  · obtain ⟨w, w1, w2, w3, w4⟩ := hJ.w
    exact ⟨w, w1, by rw [stK_6 hi (by decide)]; exact w2, by rw [h43 _ (by decide) (by decide)]; exact w3, fun l hl => by rw [hD _ (by decide), hDr _ (by decide)]; exact w4 l hl⟩
  · obtain ⟨m, m1, m2, m3⟩ := hJ.mo
    exact ⟨m, m1, by rw [stK_6 hi (by decide)]; exact m2, by rw [h43 _ (by decide) (by decide)]; exact m3⟩
  · rw [stK_6 hi (by decide), h43 _ (by decide) (by decide)]; exact hJ.wa
  · have h2 := (hwt p).2 hs
    rw [(hwt p).1 h2]
    exact hJ.tk p hp h2
  · rw [stK_O (by omega) (by omega) (by omega), mm_u_a (by decide), hb _ _ (by decide)]
    exact hJ.se i' hi'
/-- both leave what is over, process i first -/
theorem Jv.stl (hX : XOk X) (hJ : Jv X q Kc Dc Kr Dr A ws) (hi : i < 5) (h1 : A i 0 = 1) (hn : ∀ r, r < 5 → r ≠ i → A r 0 = 1 → nE (cxc X (A r 4))) : ∃ Kc' Kr' B, Stl (Int32.ofNat i) Kr Kr' ∧ Lo q 5 0 Kc Kc' ∧ Jv X q Kc' Dc Kr' Dr B ws ∧ (∀ r, r < 5 → Rs X Kc' B r) ∧ FrC Kc Kc' ∧ FrR Kr Kr' := by
  obtain ⟨Kr', B, s1, s2, s3, s4, s5, s6, s7⟩ := st_r hX 5 i _ Kr A hi prA_le hJ.cr hJ.qr hJ.wf h1 rfl
  obtain ⟨Kc', l1, l2, l3, l4⟩ := hJ.both hX s2 (fun p he => he.2.2 (s7 p he.1 (by
    by_cases e : p = i
    · exact Or.inl e
    · exact Or.inr (hn p he.1 e)) he.2.1)) s3 s5
  exact ⟨Kc', Kr', B, s1, l1, l2, l3, l4, s5⟩
/-- the same, where another one was woken -/
theorem Jv.stl2 (hX : XOk X) (hJ : Jv X q Kc Dc Kr Dr A ws) (hi : i < 5) (hp : p < 5) (hip : i ≠ p) (h1 : A i 0 = 1) (hp1 : A p 0 = 1) (hn : ∀ r, r < 5 → r ≠ i → r ≠ p → A r 0 = 1 → nE (cxc X (A r 4))) : ∃ Kc' Kr1 Kr' B, Stl (Int32.ofNat p) Kr Kr1 ∧ Stl (Int32.ofNat i) Kr1 Kr' ∧ Lo q 5 0 Kc Kc' ∧ Jv X q Kc' Dc Kr' Dr B ws ∧ (∀ r, r < 5 → Rs X Kc' B r) ∧ FrC Kc Kc' ∧ FrR Kr Kr' := by
  obtain ⟨Kr1, B1, s1, s2, s3, s4, s5, s6, s7⟩ := st_r hX 5 p _ Kr A hp prA_le hJ.cr hJ.qr hJ.wf hp1 rfl
  have e1 := s6 i hip h1
  obtain ⟨Kr', B, t1, t2, t3, t4, t5, t6, t7⟩ := st_r hX 5 i _ Kr1 B1 hi prA_le (hJ.cr.fr s5) s3 s4 (by rw [e1]; exact h1) rfl
  obtain ⟨Kc', l1, l2, l3, l4⟩ := hJ.both hX (s2.tr t2) (fun r he => he.2.2 (t7 r he.1 (by
    by_cases e : r = i
    · exact Or.inl e
    · exact Or.inr (s7 r he.1 (by
        by_cases e2 : r = p
        · exact Or.inl e2
        · exact Or.inr (hn r he.1 e e2)))) he.2.1)) t3 (s5.tr t5)
  exact ⟨Kc', Kr1, Kr', B, s1, t1, l1, l2, l3, l4, s5.tr t5⟩
/-- nothing is over -/
theorem Jv.no (hX : XOk X) (hJ : Jv X q Kc Dc Kr Dr A ws) (hn : ∀ r, r < 5 → A r 0 = 1 → nE (cxc X (A r 4))) : ∃ Kc', Lo q 5 0 Kc Kc' ∧ Jv X q Kc' Dc Kr Dr A ws ∧ (∀ r, r < 5 → Rs X Kc' A r) ∧ FrC Kc Kc' := hJ.both hX .rf (fun p he => he.2.2 (hn p he.1 he.2.1)) hJ.qr (fun _ _ _ _ _ _ => rfl)
end MV
