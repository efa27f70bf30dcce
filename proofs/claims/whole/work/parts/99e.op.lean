/-! BOTH RUNS: the orders, on what belongs together -/
def wtA (A : Nat → Nat → Nat) (i s w : Nat) : Nat → Nat → Nat := fun r => if r = i then pd_up (pd_up (pd_up (A i) 0 2) 5 s) 6 w else A r
def wkA (A : Nat → Nat → Nat) (g : Nat) : Nat → Nat → Nat := fun r => if r = g then pd_up (A g) 0 1 else A r
def clA (A : Nat → Nat → Nat) (i P : Nat) : Nat → Nat → Nat := fun r => if r = i then pd_up (pd_up (pd_up (A i) (10 + A i 7) (A i 4)) 7 (A i 7 + 1)) 4 P else A r
section OP
variable {X : Cx} {Kc Kc' Kr Kr' K K' K1 K2 K3 : pd_I} {Dc Dc' Dr Dr' : pd_D} {A B : Nat → Nat → Nat} {q : Nat → Nat} {i p r P ws z h g s : Nat} {v : Int32} {S C R : Nat → Int32} {col : Nat → Nat} {cn : Nat}
theorem cnt_cg2 (h : ∀ s, ((B s 0 = 0) ↔ (A s 0 = 0)) ∧ B s 1 = A s 1) : cnt B r = cnt A r := by
  have e : ∀ s, lvp B r s = lvp A r s := by
    intro s
    unfold lvp
    rw [(h s).2]
    by_cases k : A s 0 ≠ 0 ∧ A s 1 = r + 1
    · rw [if_pos k, if_pos ⟨fun k2 => k.1 ((h s).1.mp k2), k.2⟩]
    · rw [if_neg k, if_neg (fun k2 => k ⟨fun k3 => k2.1 ((h s).1.mpr k3), k2.2⟩)]
  unfold cnt
  rw [e, e, e, e, e]
theorem VR.set {k t : Nat} {u w : UInt64} (hV : VR Dc Dr) (hk : kd t u w) (ht : t ≤ 1) (hr : isR (Int32.ofNat k) = false → t = 0) : VR (mm_u Dc 21 k u) (mm_u Dr 53 k w) := by
  intro j hj
  obtain ⟨h1, h2, h3⟩ := hV j hj
  by_cases e : j = k
  · subst e
    rw [mm_u_s, mm_u_s]
    refine ⟨hk.le ht, hk.fin.2, fun h => ?_⟩
    have := hr h
    subst this
    obtain ⟨x, _, h⟩ := hk.z
    exact ⟨x, h⟩
  · rw [mm_u_k e, mm_u_k e]
    exact ⟨h1, h2, h3⟩
theorem Jv.cg (hJ : Jv X q Kc Dc Kr Dr A ws) (hK : ∀ b, b ≠ 6 → b ≠ 25 → b ≠ 23 → Kc' b = Kc b) (h11 : Kc' 6 11 = Kc 6 11) (hR : ∀ b, b ≠ 43 → b ≠ 56 → Kr' b = Kr b) (h33 : Kr' 43 33 = Kr 43 33) (h39 : Kr' 43 39 = 0) (hv : VR Dc' Dr') (hw : ∃ w, w ≤ 12 ∧ Kc' 6 5 = Int32.ofNat w ∧ Kr' 43 35 = Int32.ofNat w ∧ ∀ l, l < w → Dc' 26 l = Dr' 54 l) (h7 : Kc' 6 7 = Kc 6 7 ∧ Kr' 43 36 = Kr 43 36) (h8 : Kc' 6 8 = Kc 6 8 ∧ Kr' 43 37 = Kr 43 37) (h9 : Kc' 6 9 = Kc 6 9 ∧ Kr' 43 38 = Kr 43 38) (hs : ∀ i, i < 2 → Kc' 25 i = Kr' 56 i) : Jv X q Kc' Dc' Kr' Dr' A ws := by
  refine ⟨fun k hk => ?_, ?_, fun p hp => ?_, fun p hp => ?_, hJ.wf, by rw [h11]; exact hJ.lv, h39, hv, hw, by rw [h7.1, h7.2]; exact hJ.bo, ?_, by rw [h9.1, h9.2]; exact hJ.wa, hJ.tk, hs, hJ.ro.cg (fun r => ⟨fun _ => rfl, id⟩) h33 (fun j _ => by rw [hR 64 (by decide) (by decide)])⟩
  · obtain ⟨h1, h2, h3⟩ := hJ.cc k hk
    have n6 : (q k ≠ 6 ∧ q k ≠ 25 ∧ q k ≠ 23) ∧ (q k + 1 ≠ 6 ∧ q k + 1 ≠ 25 ∧ q k + 1 ≠ 23) ∧ (q k + 2 ≠ 6 ∧ q k + 2 ≠ 25 ∧ q k + 2 ≠ 23) := by rcases h1 with h | h | h | h | h <;> rw [h] <;> decide
    rw [hK _ n6.1.1 n6.1.2.1 n6.1.2.2, hK _ n6.2.1.1 n6.2.1.2.1 n6.2.1.2.2, hK _ n6.2.2.1 n6.2.2.2.1 n6.2.2.2.2]
    exact ⟨h1, h2, h3⟩
  · obtain ⟨c1, c2, c3, c4⟩ := hJ.cr
    unfold Cr
    rw [hR 45 (by decide) (by decide), hR 46 (by decide) (by decide), hR 47 (by decide) (by decide), hR 48 (by decide) (by decide)]
    exact ⟨c1, c2, c3, c4⟩
  · rw [hK _ (by omega) (by omega) (by omega), hK _ (by omega) (by omega) (by omega), hK _ (by omega) (by omega) (by omega)]
    exact hJ.qc p hp
  · exact (hJ.qr p hp).cg (hJ.wf.c8 hp) ⟨fun b hb => by rw [hR b (by omega) (by omega)], fun l _ => by rw [hR 63 (by decide) (by decide)]⟩
  · obtain ⟨m, m1, m2, m3⟩ := hJ.mo
    exact ⟨m, m1, by rw [h8.1]; exact m2, by rw [h8.2]; exact m3⟩
/-- a variable is set -/
theorem Jv.dv (hJ : Jv X q Kc Dc Kr Dr A ws) (hv : VR Dc' Dr') (hw : ∀ l, Dc' 26 l = Dc 26 l) (hw2 : ∀ l, Dr' 54 l = Dr 54 l) : Jv X q Kc Dc' Kr Dr' A ws := by
  refine hJ.cg (fun _ _ _ _ => rfl) rfl (fun _ _ _ => rfl) rfl hJ.t0 hv ?_ ⟨rfl, rfl⟩ ⟨rfl, rfl⟩ ⟨rfl, rfl⟩ hJ.se
  obtain ⟨w, w1, w2, w3, w4⟩ := hJ.w
  exact ⟨w, w1, w2, w3, fun l hl => by rw [hw, hw2]; exact w4 l hl⟩
/-- something is written -/
theorem Jv.wr {w : Nat} {y : UInt64} (hJ : Jv X q Kc Dc Kr Dr A ws) (hw : w < 12) (h5 : Kc 6 5 = Int32.ofNat w) : Jv X q (mm_u Kc 6 5 (Int32.ofNat (w + 1))) (mm_u Dc 26 w y) (mm_u Kr 43 35 (Int32.ofNat (w + 1))) (mm_u Dr 54 w y) A ws := by
  obtain ⟨w', w1, w2, w3, w4⟩ := hJ.w
  have e : w' = w := by
    rw [w2] at h5
    have h8 := congrArg Int32.toInt h5
    rw [Int32.toInt_ofNat_of_lt (by omega), Int32.toInt_ofNat_of_lt (by omega)] at h8
    omega
  subst e
  refine hJ.cg (fun b h1 _ _ => mm_u_ag h1) (mm_u_k (by decide)) (fun b h1 _ => mm_u_ag h1) (mm_u_k (by decide)) (by rw [mm_u_k (by decide)]; exact hJ.t0) (fun j hj => by rw [mm_u_a (by decide), mm_u_a (by decide)]; exact hJ.v j hj) ⟨w' + 1, by omega, mm_u_s _ _ _ _, mm_u_s _ _ _ _, fun l hl => ?_⟩ ⟨mm_u_k (by decide), mm_u_k (by decide)⟩ ⟨mm_u_k (by decide), mm_u_k (by decide)⟩ ⟨mm_u_k (by decide), mm_u_k (by decide)⟩ (fun i hi => by rw [mm_u_a (by decide), mm_u_a (by decide)]; exact hJ.se i hi)
  by_cases e : l = w'
  · rw [e, mm_u_s, mm_u_s]
  · rw [mm_u_k e, mm_u_k e]; exact w4 l (by omega)
/-- a semaphore goes up or down -/
theorem Jv.sm (hJ : Jv X q Kc Dc Kr Dr A ws) {v v' : Int32} (hv : v = v') : Jv X q (mm_u Kc 25 s v) Dc (mm_u Kr 56 s v') Dr A ws := by
  subst hv
  refine hJ.cg (fun b _ h1 _ => mm_u_ag h1) (mm_u_a (by decide)) (fun b _ h1 => mm_u_ag h1) (mm_u_a (by decide)) (by rw [mm_u_a (by decide)]; exact hJ.t0) hJ.v ?_ ⟨mm_u_a (by decide), mm_u_a (by decide)⟩ ⟨mm_u_a (by decide), mm_u_a (by decide)⟩ ⟨mm_u_a (by decide), mm_u_a (by decide)⟩ (fun i hi => ?_)
  · obtain ⟨w, w1, w2, w3, w4⟩ := hJ.w
    exact ⟨w, w1, by rw [mm_u_a (by decide)]; exact w2, by rw [mm_u_a (by decide)]; exact w3, w4⟩
  · by_cases e : i = s
    · rw [e, mm_u_s, mm_u_s]
    · rw [mm_u_k e, mm_u_k e]; exact hJ.se i hi
/-- the tape and the steps go on -/
theorem Jv.tp (hJ : Jv X q Kc Dc Kr Dr A ws) {v v1 v2 : Int32} : Jv X q (mm_u Kc 23 2 v) Dc (mm_u (mm_u Kr 43 19 v1) 43 34 v2) Dr A ws := by
  have e : ∀ z, z ≠ 19 → z ≠ 34 → (mm_u (mm_u Kr 43 19 v1) 43 34 v2) 43 z = Kr 43 z := fun z h1 h2 => by rw [mm_u_k h2, mm_u_k h1]
  refine hJ.cg (fun b _ _ h1 => mm_u_ag h1) (mm_u_a (by decide)) (fun b h1 _ => by rw [mm_u_ag h1, mm_u_ag h1]) (e _ (by decide) (by decide)) (by rw [e _ (by decide) (by decide)]; exact hJ.t0) hJ.v ?_ ⟨mm_u_a (by decide), e _ (by decide) (by decide)⟩ ⟨mm_u_a (by decide), e _ (by decide) (by decide)⟩ ⟨mm_u_a (by decide), e _ (by decide) (by decide)⟩ (fun i hi => ?_)
  · obtain ⟨w, w1, w2, w3, w4⟩ := hJ.w
    exact ⟨w, w1, by rw [mm_u_a (by decide)]; exact w2, by rw [e _ (by decide) (by decide)]; exact w3, w4⟩
  · rw [mm_u_a (by decide), mm_u_a (by decide), mm_u_a (by decide)]
    exact hJ.se i hi
end OP
