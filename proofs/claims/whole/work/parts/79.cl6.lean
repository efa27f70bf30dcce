/-! THE CLASS: parting, what is over -/
/-- findsNext of process i, as rules: f rounds are left -/
def Fn (q : Nat → Nat) (i : Nat) (iz1 : Nat) (iz2 : pd_I) (iz3 : Bool) (iz4 : pd_I) : Prop := ∀ iC : Nat → pd_I → Bool → pd_I → Prop, (∀ (f k N x : Nat) (K K' : pd_I) (b : Bool), k < 4 → Sd K i 3 = Int32.ofNat k → pd_cO (q k) → K (q k) 2 = Int32.ofNat N → N ≤ 49 → Sd K i 4 = Int32.ofNat x → x < N → K (q k + 1) x = 1 → iC f (mm_u K (28 + 3 * i) 4 (K (q k + 2) x)) b K' → iC (f + 1) K b K') → (∀ (f k N x : Nat) (K : pd_I), k < 4 → Sd K i 3 = Int32.ofNat k → pd_cO (q k) → K (q k) 2 = Int32.ofNat N → N ≤ 49 → Sd K i 4 = Int32.ofNat x → x < N → K (q k + 1) x ≠ 1 → K (q k + 1) x ≠ 0 → iC (f + 1) K true K) → (∀ (f k N x ca cb : Nat) (K K' : pd_I) (b : Bool), k < 4 → Sd K i 3 = Int32.ofNat k → pd_cO (q k) → K (q k) 2 = Int32.ofNat N → N ≤ 49 → Sd K i 4 = Int32.ofNat x → x < N → K (q k + 1) x = 0 → Sd K i 7 = Int32.ofNat (ca + 1) → Sd K i 8 = Int32.ofNat cb → ca < 6 → cb ≤ ca → iC f (mm_u (mm_u (mm_u K (28 + 3 * i) 7 (Int32.ofNat ca)) (28 + 3 * i) 3 (K (29 + 3 * i) ca)) (28 + 3 * i) 4 (K (30 + 3 * i) ca)) b K' → iC (f + 1) K b K') → (∀ (f k N x : Nat) (K : pd_I), k < 4 → Sd K i 3 = Int32.ofNat k → pd_cO (q k) → K (q k) 2 = Int32.ofNat N → N ≤ 49 → Sd K i 4 = Int32.ofNat x → x < N → K (q k + 1) x = 0 → Sd K i 7 ≤ Sd K i 8 → iC (f + 1) K false K) → iC iz1 iz2 iz3 iz4
theorem Fn.jmp {q : Nat → Nat} {i : Nat} {f k N x : Nat} {K K' : pd_I} {b : Bool} (ih0 : k < 4) (ih1 : Sd K i 3 = Int32.ofNat k) (ih2 : pd_cO (q k)) (ih3 : K (q k) 2 = Int32.ofNat N) (ih4 : N ≤ 49) (ih5 : Sd K i 4 = Int32.ofNat x) (ih6 : x < N) (ih7 : K (q k + 1) x = 1) (ih8 : Fn q i f (mm_u K (28 + 3 * i) 4 (K (q k + 2) x)) b K') : Fn q i (f + 1) K b K' := fun iC ik0 ik1 ik2 ik3 => ik0 f k N x K K' b ih0 ih1 ih2 ih3 ih4 ih5 ih6 ih7 (ih8 iC ik0 ik1 ik2 ik3)
theorem Fn.hit {q : Nat → Nat} {i : Nat} {f k N x : Nat} {K : pd_I} (ih0 : k < 4) (ih1 : Sd K i 3 = Int32.ofNat k) (ih2 : pd_cO (q k)) (ih3 : K (q k) 2 = Int32.ofNat N) (ih4 : N ≤ 49) (ih5 : Sd K i 4 = Int32.ofNat x) (ih6 : x < N) (ih7 : K (q k + 1) x ≠ 1) (ih8 : K (q k + 1) x ≠ 0) : Fn q i (f + 1) K true K := fun iC ik0 ik1 ik2 ik3 => ik1 f k N x K ih0 ih1 ih2 ih3 ih4 ih5 ih6 ih7 ih8
theorem Fn.back {q : Nat → Nat} {i : Nat} {f k N x ca cb : Nat} {K K' : pd_I} {b : Bool} (ih0 : k < 4) (ih1 : Sd K i 3 = Int32.ofNat k) (ih2 : pd_cO (q k)) (ih3 : K (q k) 2 = Int32.ofNat N) (ih4 : N ≤ 49) (ih5 : Sd K i 4 = Int32.ofNat x) (ih6 : x < N) (ih7 : K (q k + 1) x = 0) (ih8 : Sd K i 7 = Int32.ofNat (ca + 1)) (ih9 : Sd K i 8 = Int32.ofNat cb) (ih10 : ca < 6) (ih11 : cb ≤ ca) (ih12 : Fn q i f (mm_u (mm_u (mm_u K (28 + 3 * i) 7 (Int32.ofNat ca)) (28 + 3 * i) 3 (K (29 + 3 * i) ca)) (28 + 3 * i) 4 (K (30 + 3 * i) ca)) b K') : Fn q i (f + 1) K b K' := fun iC ik0 ik1 ik2 ik3 => ik2 f k N x ca cb K K' b ih0 ih1 ih2 ih3 ih4 ih5 ih6 ih7 ih8 ih9 ih10 ih11 (ih12 iC ik0 ik1 ik2 ik3)
theorem Fn.over {q : Nat → Nat} {i : Nat} {f k N x : Nat} {K : pd_I} (ih0 : k < 4) (ih1 : Sd K i 3 = Int32.ofNat k) (ih2 : pd_cO (q k)) (ih3 : K (q k) 2 = Int32.ofNat N) (ih4 : N ≤ 49) (ih5 : Sd K i 4 = Int32.ofNat x) (ih6 : x < N) (ih7 : K (q k + 1) x = 0) (ih8 : Sd K i 7 ≤ Sd K i 8) : Fn q i (f + 1) K false K := fun iC ik0 ik1 ik2 ik3 => ik3 f k N x K ih0 ih1 ih2 ih3 ih4 ih5 ih6 ih7 ih8
theorem Fn.rc {q : Nat → Nat} {i : Nat} {motive : (iz1 : Nat) → (iz2 : pd_I) → (iz3 : Bool) → (iz4 : pd_I) → Fn q i iz1 iz2 iz3 iz4 → Prop} (jmp : ∀ {f k N x : Nat} {K K' : pd_I} {b : Bool} (ih0 : k < 4) (ih1 : Sd K i 3 = Int32.ofNat k) (ih2 : pd_cO (q k)) (ih3 : K (q k) 2 = Int32.ofNat N) (ih4 : N ≤ 49) (ih5 : Sd K i 4 = Int32.ofNat x) (ih6 : x < N) (ih7 : K (q k + 1) x = 1) (ih8 : Fn q i f (mm_u K (28 + 3 * i) 4 (K (q k + 2) x)) b K') (imih8 : motive f (mm_u K (28 + 3 * i) 4 (K (q k + 2) x)) b K' ih8), motive (f + 1) K b K' (Fn.jmp (f := f) (k := k) (N := N) (x := x) (K := K) (K' := K') (b := b) ih0 ih1 ih2 ih3 ih4 ih5 ih6 ih7 ih8)) (hit : ∀ {f k N x : Nat} {K : pd_I} (ih0 : k < 4) (ih1 : Sd K i 3 = Int32.ofNat k) (ih2 : pd_cO (q k)) (ih3 : K (q k) 2 = Int32.ofNat N) (ih4 : N ≤ 49) (ih5 : Sd K i 4 = Int32.ofNat x) (ih6 : x < N) (ih7 : K (q k + 1) x ≠ 1) (ih8 : K (q k + 1) x ≠ 0), motive (f + 1) K true K (Fn.hit (f := f) (k := k) (N := N) (x := x) (K := K) ih0 ih1 ih2 ih3 ih4 ih5 ih6 ih7 ih8)) (back : ∀ {f k N x ca cb : Nat} {K K' : pd_I} {b : Bool} (ih0 : k < 4) (ih1 : Sd K i 3 = Int32.ofNat k) (ih2 : pd_cO (q k)) (ih3 : K (q k) 2 = Int32.ofNat N) (ih4 : N ≤ 49) (ih5 : Sd K i 4 = Int32.ofNat x) (ih6 : x < N) (ih7 : K (q k + 1) x = 0) (ih8 : Sd K i 7 = Int32.ofNat (ca + 1)) (ih9 : Sd K i 8 = Int32.ofNat cb) (ih10 : ca < 6) (ih11 : cb ≤ ca) (ih12 : Fn q i f (mm_u (mm_u (mm_u K (28 + 3 * i) 7 (Int32.ofNat ca)) (28 + 3 * i) 3 (K (29 + 3 * i) ca)) (28 + 3 * i) 4 (K (30 + 3 * i) ca)) b K') (imih12 : motive f (mm_u (mm_u (mm_u K (28 + 3 * i) 7 (Int32.ofNat ca)) (28 + 3 * i) 3 (K (29 + 3 * i) ca)) (28 + 3 * i) 4 (K (30 + 3 * i) ca)) b K' ih12), motive (f + 1) K b K' (Fn.back (f := f) (k := k) (N := N) (x := x) (ca := ca) (cb := cb) (K := K) (K' := K') (b := b) ih0 ih1 ih2 ih3 ih4 ih5 ih6 ih7 ih8 ih9 ih10 ih11 ih12)) (over : ∀ {f k N x : Nat} {K : pd_I} (ih0 : k < 4) (ih1 : Sd K i 3 = Int32.ofNat k) (ih2 : pd_cO (q k)) (ih3 : K (q k) 2 = Int32.ofNat N) (ih4 : N ≤ 49) (ih5 : Sd K i 4 = Int32.ofNat x) (ih6 : x < N) (ih7 : K (q k + 1) x = 0) (ih8 : Sd K i 7 ≤ Sd K i 8), motive (f + 1) K false K (Fn.over (f := f) (k := k) (N := N) (x := x) (K := K) ih0 ih1 ih2 ih3 ih4 ih5 ih6 ih7 ih8)) {iz1 : Nat} {iz2 : pd_I} {iz3 : Bool} {iz4 : pd_I} (ih : Fn q i iz1 iz2 iz3 iz4) : motive iz1 iz2 iz3 iz4 ih := by
  obtain ⟨_, im⟩ := ih (fun iz1 iz2 iz3 iz4 => ∃ ih : Fn q i iz1 iz2 iz3 iz4, motive iz1 iz2 iz3 iz4 ih) (fun f k N x K K' b ih0 ih1 ih2 ih3 ih4 ih5 ih6 ih7 ⟨ih8, imih8⟩ => ⟨(Fn.jmp (f := f) (k := k) (N := N) (x := x) (K := K) (K' := K') (b := b) ih0 ih1 ih2 ih3 ih4 ih5 ih6 ih7 ih8), @jmp f k N x K K' b ih0 ih1 ih2 ih3 ih4 ih5 ih6 ih7 ih8 imih8⟩) (fun f k N x K ih0 ih1 ih2 ih3 ih4 ih5 ih6 ih7 ih8 => ⟨(Fn.hit (f := f) (k := k) (N := N) (x := x) (K := K) ih0 ih1 ih2 ih3 ih4 ih5 ih6 ih7 ih8), @hit f k N x K ih0 ih1 ih2 ih3 ih4 ih5 ih6 ih7 ih8⟩) (fun f k N x ca cb K K' b ih0 ih1 ih2 ih3 ih4 ih5 ih6 ih7 ih8 ih9 ih10 ih11 ⟨ih12, imih12⟩ => ⟨(Fn.back (f := f) (k := k) (N := N) (x := x) (ca := ca) (cb := cb) (K := K) (K' := K') (b := b) ih0 ih1 ih2 ih3 ih4 ih5 ih6 ih7 ih8 ih9 ih10 ih11 ih12), @back f k N x ca cb K K' b ih0 ih1 ih2 ih3 ih4 ih5 ih6 ih7 ih8 ih9 ih10 ih11 ih12 imih12⟩) (fun f k N x K ih0 ih1 ih2 ih3 ih4 ih5 ih6 ih7 ih8 => ⟨(Fn.over (f := f) (k := k) (N := N) (x := x) (K := K) ih0 ih1 ih2 ih3 ih4 ih5 ih6 ih7 ih8), @over f k N x K ih0 ih1 ih2 ih3 ih4 ih5 ih6 ih7 ih8⟩)
  exact im
/-- leave, as rules -/
def Lv  (iz1 : Nat) (iz2 : pd_I) (iz3 : Int32) (iz4 : pd_I) : Prop := ∀ iC : Nat → pd_I → Int32 → pd_I → Prop, (∀ (i : Nat) (K : pd_I), Sd K i 1 = -1 → iC i K (-1) (mm_u (mm_u K (28 + 3 * i) 0 0) 6 11 (K 6 11 - 1))) → (∀ (i j : Nat) (K : pd_I), j < 5 → Sd K i 1 = Int32.ofNat j → ¬ (Sd K j 2 - 1 ≤ 0) → iC i K (-1) (mm_u (mm_u (mm_u K (28 + 3 * i) 0 0) 6 11 (K 6 11 - 1)) (28 + 3 * j) 2 (Sd K j 2 - 1))) → (∀ (i j : Nat) (K : pd_I), j < 5 → i ≠ j → Sd K i 1 = Int32.ofNat j → Sd K j 2 - 1 ≤ 0 → iC i K (Int32.ofNat j) (mm_u (mm_u (mm_u (mm_u K (28 + 3 * i) 0 0) 6 11 (K 6 11 - 1)) (28 + 3 * j) 2 (Sd K j 2 - 1)) (28 + 3 * j) 0 1)) → iC iz1 iz2 iz3 iz4
theorem Lv.top  {i : Nat} {K : pd_I} (ih0 : Sd K i 1 = -1) : Lv i K (-1) (mm_u (mm_u K (28 + 3 * i) 0 0) 6 11 (K 6 11 - 1)) := fun iC ik0 ik1 ik2 => ik0 i K ih0
theorem Lv.pt  {i j : Nat} {K : pd_I} (ih0 : j < 5) (ih1 : Sd K i 1 = Int32.ofNat j) (ih2 : ¬ (Sd K j 2 - 1 ≤ 0)) : Lv i K (-1) (mm_u (mm_u (mm_u K (28 + 3 * i) 0 0) 6 11 (K 6 11 - 1)) (28 + 3 * j) 2 (Sd K j 2 - 1)) := fun iC ik0 ik1 ik2 => ik1 i j K ih0 ih1 ih2
theorem Lv.up  {i j : Nat} {K : pd_I} (ih0 : j < 5) (ih1 : i ≠ j) (ih2 : Sd K i 1 = Int32.ofNat j) (ih3 : Sd K j 2 - 1 ≤ 0) : Lv i K (Int32.ofNat j) (mm_u (mm_u (mm_u (mm_u K (28 + 3 * i) 0 0) 6 11 (K 6 11 - 1)) (28 + 3 * j) 2 (Sd K j 2 - 1)) (28 + 3 * j) 0 1) := fun iC ik0 ik1 ik2 => ik2 i j K ih0 ih1 ih2 ih3
theorem Lv.rc  {motive : (iz1 : Nat) → (iz2 : pd_I) → (iz3 : Int32) → (iz4 : pd_I) → Lv iz1 iz2 iz3 iz4 → Prop} (top : ∀ {i : Nat} {K : pd_I} (ih0 : Sd K i 1 = -1), motive i K (-1) (mm_u (mm_u K (28 + 3 * i) 0 0) 6 11 (K 6 11 - 1)) (Lv.top (i := i) (K := K) ih0)) (pt : ∀ {i j : Nat} {K : pd_I} (ih0 : j < 5) (ih1 : Sd K i 1 = Int32.ofNat j) (ih2 : ¬ (Sd K j 2 - 1 ≤ 0)), motive i K (-1) (mm_u (mm_u (mm_u K (28 + 3 * i) 0 0) 6 11 (K 6 11 - 1)) (28 + 3 * j) 2 (Sd K j 2 - 1)) (Lv.pt (i := i) (j := j) (K := K) ih0 ih1 ih2)) (up : ∀ {i j : Nat} {K : pd_I} (ih0 : j < 5) (ih1 : i ≠ j) (ih2 : Sd K i 1 = Int32.ofNat j) (ih3 : Sd K j 2 - 1 ≤ 0), motive i K (Int32.ofNat j) (mm_u (mm_u (mm_u (mm_u K (28 + 3 * i) 0 0) 6 11 (K 6 11 - 1)) (28 + 3 * j) 2 (Sd K j 2 - 1)) (28 + 3 * j) 0 1) (Lv.up (i := i) (j := j) (K := K) ih0 ih1 ih2 ih3)) {iz1 : Nat} {iz2 : pd_I} {iz3 : Int32} {iz4 : pd_I} (ih : Lv iz1 iz2 iz3 iz4) : motive iz1 iz2 iz3 iz4 ih := by
  obtain ⟨_, im⟩ := ih (fun iz1 iz2 iz3 iz4 => ∃ ih : Lv iz1 iz2 iz3 iz4, motive iz1 iz2 iz3 iz4 ih) (fun i K ih0 => ⟨(Lv.top (i := i) (K := K) ih0), @top i K ih0⟩) (fun i j K ih0 ih1 ih2 => ⟨(Lv.pt (i := i) (j := j) (K := K) ih0 ih1 ih2), @pt i j K ih0 ih1 ih2⟩) (fun i j K ih0 ih1 ih2 ih3 => ⟨(Lv.up (i := i) (j := j) (K := K) ih0 ih1 ih2 ih3), @up i j K ih0 ih1 ih2 ih3⟩)
  exact im
/-- goOn, as rules -/
def Go (q : Nat → Nat) (iz1 : Nat) (iz2 : Int32) (iz3 : pd_I) (iz4 : pd_I) : Prop := ∀ iC : Nat → Int32 → pd_I → pd_I → Prop, (∀ (f : Nat) (K : pd_I), iC f (-1) K K) → (∀ (f i : Nat) (K : pd_I), i < 5 → Sd K i 0 ≠ 1 → iC (f + 1) (Int32.ofNat i) K K) → (∀ (f i : Nat) (K K' : pd_I), i < 5 → Sd K i 0 = 1 → Fn q i 49 K true K' → iC (f + 1) (Int32.ofNat i) K K') → (∀ (f i : Nat) (K K1 K2 K' : pd_I) (nx : Int32), i < 5 → Sd K i 0 = 1 → Fn q i 49 K false K1 → Lv i K1 nx K2 → iC f nx K2 K' → iC (f + 1) (Int32.ofNat i) K K') → iC iz1 iz2 iz3 iz4
theorem Go.nix {q : Nat → Nat} {f : Nat} {K : pd_I}  : Go q f (-1) K K := fun iC ik0 ik1 ik2 ik3 => ik0 f K
theorem Go.not {q : Nat → Nat} {f i : Nat} {K : pd_I} (ih0 : i < 5) (ih1 : Sd K i 0 ≠ 1) : Go q (f + 1) (Int32.ofNat i) K K := fun iC ik0 ik1 ik2 ik3 => ik1 f i K ih0 ih1
theorem Go.hit {q : Nat → Nat} {f i : Nat} {K K' : pd_I} (ih0 : i < 5) (ih1 : Sd K i 0 = 1) (ih2 : Fn q i 49 K true K') : Go q (f + 1) (Int32.ofNat i) K K' := fun iC ik0 ik1 ik2 ik3 => ik2 f i K K' ih0 ih1 ih2
theorem Go.lv {q : Nat → Nat} {f i : Nat} {K K1 K2 K' : pd_I} {nx : Int32} (ih0 : i < 5) (ih1 : Sd K i 0 = 1) (ih2 : Fn q i 49 K false K1) (ih3 : Lv i K1 nx K2) (ih4 : Go q f nx K2 K') : Go q (f + 1) (Int32.ofNat i) K K' := fun iC ik0 ik1 ik2 ik3 => ik3 f i K K1 K2 K' nx ih0 ih1 ih2 ih3 (ih4 iC ik0 ik1 ik2 ik3)
theorem Go.rc {q : Nat → Nat} {motive : (iz1 : Nat) → (iz2 : Int32) → (iz3 : pd_I) → (iz4 : pd_I) → Go q iz1 iz2 iz3 iz4 → Prop} (nix : ∀ {f : Nat} {K : pd_I}, motive f (-1) K K (Go.nix (f := f) (K := K))) (not : ∀ {f i : Nat} {K : pd_I} (ih0 : i < 5) (ih1 : Sd K i 0 ≠ 1), motive (f + 1) (Int32.ofNat i) K K (Go.not (f := f) (i := i) (K := K) ih0 ih1)) (hit : ∀ {f i : Nat} {K K' : pd_I} (ih0 : i < 5) (ih1 : Sd K i 0 = 1) (ih2 : Fn q i 49 K true K'), motive (f + 1) (Int32.ofNat i) K K' (Go.hit (f := f) (i := i) (K := K) (K' := K') ih0 ih1 ih2)) (lv : ∀ {f i : Nat} {K K1 K2 K' : pd_I} {nx : Int32} (ih0 : i < 5) (ih1 : Sd K i 0 = 1) (ih2 : Fn q i 49 K false K1) (ih3 : Lv i K1 nx K2) (ih4 : Go q f nx K2 K') (imih4 : motive f nx K2 K' ih4), motive (f + 1) (Int32.ofNat i) K K' (Go.lv (f := f) (i := i) (K := K) (K1 := K1) (K2 := K2) (K' := K') (nx := nx) ih0 ih1 ih2 ih3 ih4)) {iz1 : Nat} {iz2 : Int32} {iz3 : pd_I} {iz4 : pd_I} (ih : Go q iz1 iz2 iz3 iz4) : motive iz1 iz2 iz3 iz4 ih := by
  obtain ⟨_, im⟩ := ih (fun iz1 iz2 iz3 iz4 => ∃ ih : Go q iz1 iz2 iz3 iz4, motive iz1 iz2 iz3 iz4 ih) (fun f K => ⟨(Go.nix (f := f) (K := K)), @nix f K⟩) (fun f i K ih0 ih1 => ⟨(Go.not (f := f) (i := i) (K := K) ih0 ih1), @not f i K ih0 ih1⟩) (fun f i K K' ih0 ih1 ih2 => ⟨(Go.hit (f := f) (i := i) (K := K) (K' := K') ih0 ih1 ih2), @hit f i K K' ih0 ih1 ih2⟩) (fun f i K K1 K2 K' nx ih0 ih1 ih2 ih3 ⟨ih4, imih4⟩ => ⟨(Go.lv (f := f) (i := i) (K := K) (K1 := K1) (K2 := K2) (K' := K') (nx := nx) ih0 ih1 ih2 ih3 ih4), @lv f i K K1 K2 K' nx ih0 ih1 ih2 ih3 ih4 imih4⟩)
  exact im
/-- leaveWhatIsOver, as rules -/
def Lo (q : Nat → Nat) (iz1 : Nat) (iz2 : Nat) (iz3 : pd_I) (iz4 : pd_I) : Prop := ∀ iC : Nat → Nat → pd_I → pd_I → Prop, (∀ (p : Nat) (K : pd_I), iC 0 p K K) → (∀ (f p : Nat) (K K1 K' : pd_I), Go q 5 (Int32.ofNat p) K K1 → iC f (p + 1) K1 K' → iC (f + 1) p K K') → iC iz1 iz2 iz3 iz4
theorem Lo.nil {q : Nat → Nat} {p : Nat} {K : pd_I}  : Lo q 0 p K K := fun iC ik0 ik1 => ik0 p K
theorem Lo.cons {q : Nat → Nat} {f p : Nat} {K K1 K' : pd_I} (ih0 : Go q 5 (Int32.ofNat p) K K1) (ih1 : Lo q f (p + 1) K1 K') : Lo q (f + 1) p K K' := fun iC ik0 ik1 => ik1 f p K K1 K' ih0 (ih1 iC ik0 ik1)
theorem Lo.rc {q : Nat → Nat} {motive : (iz1 : Nat) → (iz2 : Nat) → (iz3 : pd_I) → (iz4 : pd_I) → Lo q iz1 iz2 iz3 iz4 → Prop} (nil : ∀ {p : Nat} {K : pd_I}, motive 0 p K K (Lo.nil (p := p) (K := K))) (cons : ∀ {f p : Nat} {K K1 K' : pd_I} (ih0 : Go q 5 (Int32.ofNat p) K K1) (ih1 : Lo q f (p + 1) K1 K') (imih1 : motive f (p + 1) K1 K' ih1), motive (f + 1) p K K' (Lo.cons (f := f) (p := p) (K := K) (K1 := K1) (K' := K') ih0 ih1)) {iz1 : Nat} {iz2 : Nat} {iz3 : pd_I} {iz4 : pd_I} (ih : Lo q iz1 iz2 iz3 iz4) : motive iz1 iz2 iz3 iz4 ih := by
  obtain ⟨_, im⟩ := ih (fun iz1 iz2 iz3 iz4 => ∃ ih : Lo q iz1 iz2 iz3 iz4, motive iz1 iz2 iz3 iz4 ih) (fun p K => ⟨(Lo.nil (p := p) (K := K)), @nil p K⟩) (fun f p K K1 K' ih0 ⟨ih1, imih1⟩ => ⟨(Lo.cons (f := f) (p := p) (K := K) (K1 := K1) (K' := K') ih0 ih1), @cons f p K K1 K' ih0 ih1 imih1⟩)
  exact im
section CL6
variable {K K' K1 K2 : pd_I} {D : pd_D} {J : pd_J} {n : Nat} {xs : Nat → Int32} {Ls d : Nat} {q : Nat → Nat} {c h i : Nat} {v x y : UInt64} {b : Bool}
theorem pd_ca {k pc : Nat} {L : mm_L} {r : List Value} (hk : k < 4) : (mm_ai pd_ak (pd_st K D (pd_RF q) J n) (.int (Int32.ofNat k) :: .ref (7 : Nat) :: r) 5 fun i a r => mm_go pc L (va_rf ((pd_st K D (pd_RF q) J n).2.1.2.2.1 a i.toNatClampNeg) :: r) (pd_st K D (pd_RF q) J n)) = mm_go pc L (.ref (q k) :: r) (pd_st K D (pd_RF q) J n) := by
  rw [pd_aa (a := 7) (t := 11) (mm := 4) rfl rfl hk (by omega), rf_7 hk]
  rfl
theorem lt49 {j : Nat} (h : j < 49) : ¬ ((49 : Int32) ≤ Int32.ofNat j) := by rw [show (49 : Int32) = Int32.ofNat 49 from rfl, pd_gtl (by omega) (by omega)]; omega
theorem Fn.run {f : Nat} (h : Fn q i f K b K') (hd : 1 ≤ d) (hi : i < 5) : ∀ (j : Nat) (a3 a4 : Option Value), j + f = 49 → mm_o2 a3 = false → pd_G xs Ls d pd_m64 (2, [some (.ref (6 : Nat)), some (.ref (28 + 3 * i)), some (.int (Int32.ofNat j)), a3, a4], [], pd_st K D (pd_RF q) J n) (.inl (some (.int (pd_b b))), pd_st K' D (pd_RF q) J n) := by
  have hst := st_sh hi
  induction h using Fn.rc with
  | @jmp f k N x K K' b h1 h2 hc h4 h5 h6 h7 h8 h9 ih =>
    intro j a3 a4 hj h3
    have z := lt49 (j := j) (by omega)
    have h2' : K (28 + 3 * i) 3 = Int32.ofNat k := h2
    have h6' : K (28 + 3 * i) 4 = Int32.ofNat x := h6
    have hI := fun a4 => ih (j + 1) (some (.ref (q k))) a4 (by omega) rfl
    rw [p64_2]
    simp only [p64_0, p64_1, p64_3, p64_5, p64_8, p64_9, p64_12, p64_13, p64_16, p64_17, p64_18, p64_19, p64_20, p64_23, p64_26, p64_28, p64_30, p64_31, p64_34, p64_35, p64_36, p64_37, p64_40, p64_43, p64_46, p64_49, p64_51, p64_54, p64_55, p64_56, p64_57, p64_60, p64_63, p64_64, p64_65, p64_68, p64_71, p64_72, gf3_0 sh6, gf6_3 hst, gf6_4 hst, mm_e4, pd_stI, pf6_4 hst, qi0 hst, qi1 hc.sh, so5_2i, so5_3r, so5_4i, mm_lA, mm_lI, mm_lD, mm_lJ, mm_ld0, mm_lds, pd_Kgo, pd_Kend, pd_Kno, pd_Kite, mm_i, mm_ii, mm_r, mm_1, mm_icmp, cond_true, cond_false, mm_o2, mm_c2, wt0, wt1, wt2, wt3, wt4, va_rfs, pd_bkv, pd_bkn, pd_bkif, pd_st1, Nat.reduceAdd, Nat.reduceLeDiff, Bool.or_false, Bool.or_self, if_neg z, rf_60, h2', pd_ca h1, h6', ev17 (d := d) (by omega) hc h4 h7 h5, ev18 (d := d) (by omega) hc h4 h7 h5, h8, if_true, pd_suc, h3]
    exact hI _
  | @hit f k N x K h1 h2 hc h4 h5 h6 h7 h8 h9 =>
    intro j a3 a4 hj h3
    have z := lt49 (j := j) (by omega)
    have h2' : K (28 + 3 * i) 3 = Int32.ofNat k := h2
    have h6' : K (28 + 3 * i) 4 = Int32.ofNat x := h6
    rw [p64_2]
    simp only [p64_0, p64_1, p64_3, p64_5, p64_8, p64_9, p64_12, p64_13, p64_16, p64_17, p64_18, p64_19, p64_20, p64_23, p64_26, p64_28, p64_30, p64_31, p64_34, p64_35, p64_36, p64_37, p64_40, p64_43, p64_46, p64_49, p64_51, p64_54, p64_55, p64_56, p64_57, p64_60, p64_63, p64_64, p64_65, p64_68, p64_71, p64_72, gf3_0 sh6, gf6_3 hst, gf6_4 hst, mm_e4, pd_stI, pf6_4 hst, qi0 hst, qi1 hc.sh, so5_2i, so5_3r, so5_4i, mm_lA, mm_lI, mm_lD, mm_lJ, mm_ld0, mm_lds, pd_Kgo, pd_Kend, pd_Kno, pd_Kite, mm_i, mm_ii, mm_r, mm_1, mm_icmp, cond_true, cond_false, mm_o2, mm_c2, wt0, wt1, wt2, wt3, wt4, va_rfs, pd_bkv, pd_bkn, pd_bkif, pd_st1, Nat.reduceAdd, Nat.reduceLeDiff, Bool.or_false, Bool.or_self, if_neg z, rf_60, h2', pd_ca h1, h6', ev17 (d := d) (by omega) hc h4 h7 h5, if_neg h8, if_neg h9, or_true, if_true]
    rfl
  | @back f k N x ca cb K K' b h1 h2 hc h4 h5 h6 h7 h8 h9 h10 h11 h12 h13 ih =>
    intro j a3 a4 hj h3
    have z := lt49 (j := j) (by omega)
    have h2' : K (28 + 3 * i) 3 = Int32.ofNat k := h2
    have h6' : K (28 + 3 * i) 4 = Int32.ofNat x := h6
    have hI := fun a4 => ih (j + 1) (some (.ref (q k))) a4 (by omega) rfl
    have e90 := ev90s (xs := xs) (Ls := Ls) (K := K) (D := D) (J := J) (n := n) (q := q) (d := d) (by omega) hi h9 h10 h11 h12
    rw [p64_2]
    simp only [p64_0, p64_1, p64_3, p64_5, p64_8, p64_9, p64_12, p64_13, p64_16, p64_17, p64_18, p64_19, p64_20, p64_23, p64_26, p64_28, p64_30, p64_31, p64_34, p64_35, p64_36, p64_37, p64_40, p64_43, p64_46, p64_49, p64_51, p64_54, p64_55, p64_56, p64_57, p64_60, p64_63, p64_64, p64_65, p64_68, p64_71, p64_72, gf3_0 sh6, gf6_3 hst, gf6_4 hst, mm_e4, pd_stI, pf6_4 hst, qi0 hst, qi1 hc.sh, so5_2i, so5_3r, so5_4i, mm_lA, mm_lI, mm_lD, mm_lJ, mm_ld0, mm_lds, pd_Kgo, pd_Kend, pd_Kno, pd_Kite, mm_i, mm_ii, mm_r, mm_1, mm_icmp, cond_true, cond_false, mm_o2, mm_c2, wt0, wt1, wt2, wt3, wt4, va_rfs, pd_bkv, pd_bkn, pd_bkif, pd_st1, Nat.reduceAdd, Nat.reduceLeDiff, Bool.or_false, Bool.or_self, if_neg z, rf_60, h2', pd_ca h1, h6', ev17 (d := d) (by omega) hc h4 h7 h5, h8, show ((0 : Int32) = 1) = False from eq_false (by decide), if_true, if_false, e90, i10, pd_suc]
    exact hI _
  | @over f k N x K h1 h2 hc h4 h5 h6 h7 h8 h9 =>
    intro j a3 a4 hj h3
    have z := lt49 (j := j) (by omega)
    have h2' : K (28 + 3 * i) 3 = Int32.ofNat k := h2
    have h6' : K (28 + 3 * i) 4 = Int32.ofNat x := h6
    have e90 := ev90n (xs := xs) (Ls := Ls) (K := K) (D := D) (J := J) (n := n) (q := q) (d := d) (by omega) hi h9
    rw [p64_2]
    simp only [p64_0, p64_1, p64_3, p64_5, p64_8, p64_9, p64_12, p64_13, p64_16, p64_17, p64_18, p64_19, p64_20, p64_23, p64_26, p64_28, p64_30, p64_31, p64_34, p64_35, p64_36, p64_37, p64_40, p64_43, p64_46, p64_49, p64_51, p64_54, p64_55, p64_56, p64_57, p64_60, p64_63, p64_64, p64_65, p64_68, p64_71, p64_72, gf3_0 sh6, gf6_3 hst, gf6_4 hst, mm_e4, pd_stI, pf6_4 hst, qi0 hst, qi1 hc.sh, so5_2i, so5_3r, so5_4i, mm_lA, mm_lI, mm_lD, mm_lJ, mm_ld0, mm_lds, pd_Kgo, pd_Kend, pd_Kno, pd_Kite, mm_i, mm_ii, mm_r, mm_1, mm_icmp, cond_true, cond_false, mm_o2, mm_c2, wt0, wt1, wt2, wt3, wt4, va_rfs, pd_bkv, pd_bkn, pd_bkif, pd_st1, Nat.reduceAdd, Nat.reduceLeDiff, Bool.or_false, Bool.or_self, if_neg z, rf_60, h2', pd_ca h1, h6', ev17 (d := d) (by omega) hc h4 h7 h5, h8, show ((0 : Int32) = 1) = False from eq_false (by decide), if_true, if_false, e90, true_or]
    rfl
theorem ev64 (h : Fn q i 49 K b K') (hd : 2 ≤ d) (hi : i < 5) : mm_ev xs Ls pd_ck pd_ak pd_mj d 64 [.ref (6 : Nat), .ref (28 + 3 * i)] (pd_st K D (pd_RF q) J n) = some (.inl (some (.int (pd_b b))), pd_st K' D (pd_RF q) J n) := by
  obtain ⟨d, rfl⟩ : ∃ e, d = e + 1 := ⟨d - 1, by omega⟩
  have hst := st_sh hi
  have hc : pd_cO 3 := Or.inl rfl
  have hI := h.run (xs := xs) (Ls := Ls) (D := D) (J := J) (n := n) (d := d) (by omega) hi 0 none none (by omega) rfl
  refine pd_ev_of (Nat.le_of_ble_eq_true rfl) ?_; rw [show pd_mj 64 = pd_m64 from rfl, show mm_pad (mm_in [.ref (6 : Nat), .ref (28 + 3 * i)]) pd_m64.nL = [some (.ref (6 : Nat)), some (.ref (28 + 3 * i)), none, none, none] from rfl]
  simp only [p64_0, p64_1, p64_3, p64_5, p64_8, p64_9, p64_12, p64_13, p64_16, p64_17, p64_18, p64_19, p64_20, p64_23, p64_26, p64_28, p64_30, p64_31, p64_34, p64_35, p64_36, p64_37, p64_40, p64_43, p64_46, p64_49, p64_51, p64_54, p64_55, p64_56, p64_57, p64_60, p64_63, p64_64, p64_65, p64_68, p64_71, p64_72, gf3_0 sh6, gf6_3 hst, gf6_4 hst, mm_e4, pd_stI, pf6_4 hst, qi0 hst, qi1 hc.sh, so5_2i, so5_3r, so5_4i, mm_lA, mm_lI, mm_lD, mm_lJ, mm_ld0, mm_lds, pd_Kgo, pd_Kend, pd_Kno, pd_Kite, mm_i, mm_ii, mm_r, mm_1, mm_icmp, cond_true, cond_false, mm_o2, mm_c2, wt0, wt1, wt2, wt3, wt4, va_rfs, pd_bkv, pd_bkn, pd_bkif, pd_st1, Nat.reduceAdd, Nat.reduceLeDiff, Bool.or_false, Bool.or_self]
  exact hI
theorem Lv.ev {nx : Int32} (h : Lv i K nx K') (hd : 1 ≤ d) (hi : i < 5) : mm_ev xs Ls pd_ck pd_ak pd_mj d 65 [.ref (6 : Nat), .ref (28 + 3 * i)] (pd_st K D (pd_RF q) J n) = some (.inl (some (.int nx)), pd_st K' D (pd_RF q) J n) := by
  induction h using Lv.rc with
  | top h1 => exact ev65a hd hi h1
  | pt h1 h2 h3 => exact ev65b hd hi h1 h2 h3
  | up h1 h2 h3 h4 => exact ev65c hd hi h1 h2 h3 h4
theorem Go.run {f : Nat} {w : Int32} (h : Go q f w K K') (hd : 2 ≤ d) : ∀ (j : Nat) (w0 : Int32) (a4 : Option Value), j + f = 5 → pd_G xs Ls d pd_m63 (4, [some (.ref (6 : Nat)), some (.int w0), some (.int w), some (.int (Int32.ofNat j)), a4], [], pd_st K D (pd_RF q) J n) (.inl none, pd_st K' D (pd_RF q) J n) := by
  induction h using Go.rc with
  | @nix f K =>
    intro j w0 a4 hj
    have hst : pd_SH[28]? = some (.inl 6) := rfl
    rw [p63_4]
    by_cases hj5 : j < 5
    · have z := five hj5
      simp only [p63_0, p63_1, p63_2, p63_3, p63_5, p63_6, p63_9, p63_10, p63_11, p63_14, p63_15, p63_18, p63_19, p63_20, p63_22, p63_24, p63_27, p63_28, p63_31, p63_32, p63_34, p63_37, p63_40, p63_41, p63_42, p63_44, p63_47, p63_48, p63_51, p63_54, gf3_10 sh6, gf6_0 hst, mm_rV, pd_stI, qi1 sh6, so5_2i, so5_3i, so5_4r, mm_lA, mm_lI, mm_lD, mm_lJ, mm_ld0, mm_lds, pd_Kgo, pd_Kend, pd_Kno, pd_Kite, mm_i, mm_ii, mm_r, mm_1, mm_icmp, cond_true, cond_false, mm_o2, mm_c2, wt0, wt1, wt2, wt3, wt4, va_rfs, pd_bkv, pd_bkn, pd_bkif, pd_st1, Nat.reduceAdd, Nat.reduceLeDiff, Bool.or_false, Bool.or_self, if_neg z, if_true]
    · have z : ((5 : Int32) ≤ Int32.ofNat j) := by rw [show j = 5 by omega]; decide
      simp only [p63_0, p63_1, p63_2, p63_3, p63_5, p63_6, p63_9, p63_10, p63_11, p63_14, p63_15, p63_18, p63_19, p63_20, p63_22, p63_24, p63_27, p63_28, p63_31, p63_32, p63_34, p63_37, p63_40, p63_41, p63_42, p63_44, p63_47, p63_48, p63_51, p63_54, gf3_10 sh6, gf6_0 hst, mm_rV, pd_stI, qi1 sh6, so5_2i, so5_3i, so5_4r, mm_lA, mm_lI, mm_lD, mm_lJ, mm_ld0, mm_lds, pd_Kgo, pd_Kend, pd_Kno, pd_Kite, mm_i, mm_ii, mm_r, mm_1, mm_icmp, cond_true, cond_false, mm_o2, mm_c2, wt0, wt1, wt2, wt3, wt4, va_rfs, pd_bkv, pd_bkn, pd_bkif, pd_st1, Nat.reduceAdd, Nat.reduceLeDiff, Bool.or_false, Bool.or_self, if_pos z]
  | @not f i K h1 h2 =>
    intro j w0 a4 hj
    have z := five (p := j) (by omega)
    have zi := neg1 (j := i) (by omega)
    have hst := st_sh h1
    have h2' : ¬ (K (28 + 3 * i) 0 = 1) := h2
    rw [p63_4]
    simp only [p63_0, p63_1, p63_2, p63_3, p63_5, p63_6, p63_9, p63_10, p63_11, p63_14, p63_15, p63_18, p63_19, p63_20, p63_22, p63_24, p63_27, p63_28, p63_31, p63_32, p63_34, p63_37, p63_40, p63_41, p63_42, p63_44, p63_47, p63_48, p63_51, p63_54, gf3_10 sh6, gf6_0 hst, mm_rV, pd_stI, qi1 sh6, so5_2i, so5_3i, so5_4r, mm_lA, mm_lI, mm_lD, mm_lJ, mm_ld0, mm_lds, pd_Kgo, pd_Kend, pd_Kno, pd_Kite, mm_i, mm_ii, mm_r, mm_1, mm_icmp, cond_true, cond_false, mm_o2, mm_c2, wt0, wt1, wt2, wt3, wt4, va_rfs, pd_bkv, pd_bkn, pd_bkif, pd_st1, Nat.reduceAdd, Nat.reduceLeDiff, Bool.or_false, Bool.or_self, if_neg z, if_neg zi, rf_6a, pd_sa h1, if_neg h2']
  | @hit f i K K' h1 h2 h3 =>
    intro j w0 a4 hj
    have z := five (p := j) (by omega)
    have zi := neg1 (j := i) (by omega)
    have hst := st_sh h1
    have h2' : K (28 + 3 * i) 0 = 1 := h2
    have e := ev64 (xs := xs) (Ls := Ls) (D := D) (J := J) (n := n) (d := d) h3 hd h1
    have e1 : pd_b true = 1 := rfl
    rw [e1] at e
    rw [p63_4]
    simp only [p63_0, p63_1, p63_2, p63_3, p63_5, p63_6, p63_9, p63_10, p63_11, p63_14, p63_15, p63_18, p63_19, p63_20, p63_22, p63_24, p63_27, p63_28, p63_31, p63_32, p63_34, p63_37, p63_40, p63_41, p63_42, p63_44, p63_47, p63_48, p63_51, p63_54, gf3_10 sh6, gf6_0 hst, mm_rV, pd_stI, qi1 sh6, so5_2i, so5_3i, so5_4r, mm_lA, mm_lI, mm_lD, mm_lJ, mm_ld0, mm_lds, pd_Kgo, pd_Kend, pd_Kno, pd_Kite, mm_i, mm_ii, mm_r, mm_1, mm_icmp, cond_true, cond_false, mm_o2, mm_c2, wt0, wt1, wt2, wt3, wt4, va_rfs, pd_bkv, pd_bkn, pd_bkif, pd_st1, Nat.reduceAdd, Nat.reduceLeDiff, Bool.or_false, Bool.or_self, if_neg z, if_neg zi, rf_6a, pd_sa h1, if_pos h2', e, i10, if_false]
  | @lv f i K K1 K2 K' nx h1 h2 h3 h4 h5 ih =>
    intro j w0 a4 hj
    have z := five (p := j) (by omega)
    have zi := neg1 (j := i) (by omega)
    have hst := st_sh h1
    have h2' : K (28 + 3 * i) 0 = 1 := h2
    have e := ev64 (xs := xs) (Ls := Ls) (D := D) (J := J) (n := n) (d := d) h3 hd h1
    have e1 : pd_b false = 0 := rfl
    rw [e1] at e
    have e2 := h4.ev (xs := xs) (Ls := Ls) (D := D) (J := J) (n := n) (q := q) (d := d) (by omega) h1
    have hI := ih (j + 1) w0 (some (.ref (28 + 3 * i))) (by omega)
    rw [p63_4]
    simp only [p63_0, p63_1, p63_2, p63_3, p63_5, p63_6, p63_9, p63_10, p63_11, p63_14, p63_15, p63_18, p63_19, p63_20, p63_22, p63_24, p63_27, p63_28, p63_31, p63_32, p63_34, p63_37, p63_40, p63_41, p63_42, p63_44, p63_47, p63_48, p63_51, p63_54, gf3_10 sh6, gf6_0 hst, mm_rV, pd_stI, qi1 sh6, so5_2i, so5_3i, so5_4r, mm_lA, mm_lI, mm_lD, mm_lJ, mm_ld0, mm_lds, pd_Kgo, pd_Kend, pd_Kno, pd_Kite, mm_i, mm_ii, mm_r, mm_1, mm_icmp, cond_true, cond_false, mm_o2, mm_c2, wt0, wt1, wt2, wt3, wt4, va_rfs, pd_bkv, pd_bkn, pd_bkif, pd_st1, Nat.reduceAdd, Nat.reduceLeDiff, Bool.or_false, Bool.or_self, if_neg z, if_neg zi, rf_6a, pd_sa h1, if_pos h2', e, if_true, e2, pd_suc]
    exact hI
theorem ev63 {w : Int32} (h : Go q 5 w K K') (hd : 3 ≤ d) : mm_ev xs Ls pd_ck pd_ak pd_mj d 63 [.ref (6 : Nat), .int w] (pd_st K D (pd_RF q) J n) = some (.inl none, pd_st K' D (pd_RF q) J n) := by
  obtain ⟨d, rfl⟩ : ∃ e, d = e + 1 := ⟨d - 1, by omega⟩
  have hst : pd_SH[28]? = some (.inl 6) := rfl
  have hI := h.run (xs := xs) (Ls := Ls) (D := D) (J := J) (n := n) (d := d) (by omega) 0 w none (by omega)
  refine pd_ev_of (Nat.le_of_ble_eq_true rfl) ?_; rw [show pd_mj 63 = pd_m63 from rfl, show mm_pad (mm_in [.ref (6 : Nat), .int w]) pd_m63.nL = [some (.ref (6 : Nat)), some (.int w), none, none, none] from rfl]
  simp only [p63_0, p63_1, p63_2, p63_3, p63_5, p63_6, p63_9, p63_10, p63_11, p63_14, p63_15, p63_18, p63_19, p63_20, p63_22, p63_24, p63_27, p63_28, p63_31, p63_32, p63_34, p63_37, p63_40, p63_41, p63_42, p63_44, p63_47, p63_48, p63_51, p63_54, gf3_10 sh6, gf6_0 hst, mm_rV, pd_stI, qi1 sh6, so5_2i, so5_3i, so5_4r, mm_lA, mm_lI, mm_lD, mm_lJ, mm_ld0, mm_lds, pd_Kgo, pd_Kend, pd_Kno, pd_Kite, mm_i, mm_ii, mm_r, mm_1, mm_icmp, cond_true, cond_false, mm_o2, mm_c2, wt0, wt1, wt2, wt3, wt4, va_rfs, pd_bkv, pd_bkn, pd_bkif, pd_st1, Nat.reduceAdd, Nat.reduceLeDiff, Bool.or_false, Bool.or_self]
  exact hI
theorem Lo.run {f p : Nat} (h : Lo q f p K K') (hd : 3 ≤ d) : p + f = 5 → pd_G xs Ls d pd_m62 (2, [some (.ref (6 : Nat)), some (.int (Int32.ofNat p))], [], pd_st K D (pd_RF q) J n) (.inl none, pd_st K' D (pd_RF q) J n) := by
  induction h using Lo.rc with
  | @nil p K =>
    intro hp
    have z : ((5 : Int32) ≤ Int32.ofNat p) := by rw [show p = 5 by omega]; decide
    rw [p62_2]
    simp only [p62_0, p62_1, p62_3, p62_4, p62_7, p62_8, p62_9, p62_12, p62_15, p62_18, mm_rV, qi1 sh6, so2_1i, mm_lA, mm_lI, mm_lD, mm_lJ, mm_ld0, mm_lds, pd_Kgo, pd_Kend, pd_Kno, pd_Kite, mm_i, mm_ii, mm_r, mm_1, mm_icmp, cond_true, cond_false, mm_o2, mm_c2, wt0, wt1, wt2, wt3, wt4, va_rfs, pd_bkv, pd_bkn, pd_bkif, pd_st1, Nat.reduceAdd, Nat.reduceLeDiff, Bool.or_false, Bool.or_self, if_pos z]
  | @cons f p K K1 K' h1 h2 ih =>
    intro hp
    have z := five (p := p) (by omega)
    have e := ev63 (xs := xs) (Ls := Ls) (D := D) (J := J) (n := n) (d := d) h1 hd
    have hI := ih (by omega)
    rw [p62_2]
    simp only [p62_0, p62_1, p62_3, p62_4, p62_7, p62_8, p62_9, p62_12, p62_15, p62_18, mm_rV, qi1 sh6, so2_1i, mm_lA, mm_lI, mm_lD, mm_lJ, mm_ld0, mm_lds, pd_Kgo, pd_Kend, pd_Kno, pd_Kite, mm_i, mm_ii, mm_r, mm_1, mm_icmp, cond_true, cond_false, mm_o2, mm_c2, wt0, wt1, wt2, wt3, wt4, va_rfs, pd_bkv, pd_bkn, pd_bkif, pd_st1, Nat.reduceAdd, Nat.reduceLeDiff, Bool.or_false, Bool.or_self, if_neg z, e, pd_suc]
    exact hI
theorem ev62 (h : Lo q 5 0 K K') (hd : 4 ≤ d) : mm_ev xs Ls pd_ck pd_ak pd_mj d 62 [.ref (6 : Nat)] (pd_st K D (pd_RF q) J n) = some (.inl none, pd_st K' D (pd_RF q) J n) := by
  obtain ⟨d, rfl⟩ : ∃ e, d = e + 1 := ⟨d - 1, by omega⟩
  have hI := h.run (xs := xs) (Ls := Ls) (D := D) (J := J) (n := n) (d := d) (by omega) (by omega)
  refine pd_ev_of (Nat.le_of_ble_eq_true rfl) ?_; rw [show pd_mj 62 = pd_m62 from rfl, show mm_pad (mm_in [.ref (6 : Nat)]) pd_m62.nL = [some (.ref (6 : Nat)), none] from rfl]
  simp only [p62_0, p62_1, p62_3, p62_4, p62_7, p62_8, p62_9, p62_12, p62_15, p62_18, mm_rV, qi1 sh6, so2_1i, mm_lA, mm_lI, mm_lD, mm_lJ, mm_ld0, mm_lds, pd_Kgo, pd_Kend, pd_Kno, pd_Kite, mm_i, mm_ii, mm_r, mm_1, mm_icmp, cond_true, cond_false, mm_o2, mm_c2, wt0, wt1, wt2, wt3, wt4, va_rfs, pd_bkv, pd_bkn, pd_bkif, pd_st1, Nat.reduceAdd, Nat.reduceLeDiff, Bool.or_false, Bool.or_self]
  exact hI
/-- part -/
theorem ev60n {lv : Nat} {s : Int32} (hd : 1 ≤ d) (h11 : K 6 11 = Int32.ofNat lv) (hl : 3 < lv) (hl5 : lv ≤ 5) : mm_ev xs Ls pd_ck pd_ak pd_mj d 60 [.ref (6 : Nat), .int (Int32.ofNat i), .int s] (pd_st K D (pd_RF q) J n) = some (.inr 1, pd_st K D (pd_RF q) J (n + 1)) := by
  obtain ⟨d, rfl⟩ : ∃ e, d = e + 1 := ⟨d - 1, by omega⟩
  have hst : pd_SH[28]? = some (.inl 6) := rfl
  have e2 : Int32.ofNat lv + 2 = Int32.ofNat (lv + 2) := by rw [show (2 : Int32) = Int32.ofNat 2 from rfl, pd_addn]
  have z : ¬ (Int32.ofNat (lv + 2) ≤ 5) := by rw [show (5 : Int32) = Int32.ofNat 5 from rfl, pd_gtl (by omega) (by omega)]; omega
  refine pd_ev_of (Nat.le_of_ble_eq_true rfl) ?_; rw [show pd_mj 60 = pd_m60 from rfl, show mm_pad (mm_in [.ref (6 : Nat), .int (Int32.ofNat i), .int s]) pd_m60.nL = [some (.ref (6 : Nat)), some (.int (Int32.ofNat i)), some (.int s), none] from rfl]
  simp only [p60_0, p60_1, p60_4, p60_5, p60_6, p60_7, p60_10, p60_20, p60_21, p60_24, p60_25, p60_26, p60_27, p60_28, p60_29, p60_32, p60_33, p60_34, p60_37, p60_38, p60_41, p60_42, p60_45, p60_46, p60_47, p60_48, p60_49, p60_52, p60_53, p60_54, p60_57, p60_58, p60_61, p60_62, p60_65, p60_66, p60_67, p60_68, p60_69, p60_72, p60_73, p60_74, p60_77, p60_78, p60_79, p60_82, p60_83, p60_84, p60_87, p60_88, p60_89, p60_92, p60_93, p60_94, p60_97, p60_98, p60_101, p60_104, p60_107, gf3_10 sh6, gf3_11 sh6, gf3_7 sh6, gf3_8 sh6, gf6_4 hst, mm_rV, pd_KinS2, pd_stI, pf3_11 sh6, pf3_7 sh6, pf3_8 sh6, pf6_0 hst, pf6_2 hst, qi0 sh6, qi3 hst, so4_3r, mm_lA, mm_lI, mm_lD, mm_lJ, mm_ld0, mm_lds, pd_Kgo, pd_Kend, pd_Kno, pd_Kite, mm_i, mm_ii, mm_r, mm_1, mm_icmp, cond_true, cond_false, mm_o2, mm_c2, wt0, wt1, wt2, wt3, wt4, va_rfs, pd_bkv, pd_bkn, pd_bkif, pd_st1, Nat.reduceAdd, Nat.reduceLeDiff, Bool.or_false, Bool.or_self, h11, e2, if_neg z, thr0]
  rfl
/-- the memory behind a parting -/
def ptK (K : pd_I) (i : Nat) : pd_I := mm_u (mm_u K (28 + 3 * i) 0 2) (28 + 3 * i) 2 2
def p1K (K : pd_I) (i t1 : Nat) : pd_I := srK (ptK K i) t1 (Int32.ofNat i) (ptK K i (28 + 3 * i) 3) (ptK K i (28 + 3 * i) 4 + 1) (ptK K i (28 + 3 * i) 7)
def p2K (K : pd_I) (i t1 t2 : Nat) (s : Int32) : pd_I := srK (p1K K i t1) t2 (Int32.ofNat i) (p1K K i t1 (28 + 3 * i) 3) s (p1K K i t1 (28 + 3 * i) 7)
def p3K (K : pd_I) : pd_I := mm_u (mm_u (mm_u K 6 7 (K 6 7 + 2)) 6 11 (K 6 11 + 2)) 6 8 (if K 6 8 < K 6 11 + 2 then K 6 11 + 2 else K 6 8)
theorem ev60s {lv t1 t2 : Nat} {s : Int32} (hd : 3 ≤ d) (hi : i < 5) (h11 : K 6 11 = Int32.ofNat lv) (hl : lv ≤ 3) (ht1 : t1 < 5) (h1 : Sd (ptK K i) t1 0 = 0) (hj1 : ∀ j, j < t1 → Sd (ptK K i) j 0 ≠ 0) (ht2 : t2 < 5) (h2 : Sd (p1K K i t1) t2 0 = 0) (hj2 : ∀ j, j < t2 → Sd (p1K K i t1) j 0 ≠ 0) : mm_ev xs Ls pd_ck pd_ak pd_mj d 60 [.ref (6 : Nat), .int (Int32.ofNat i), .int s] (pd_st K D (pd_RF q) J n) = some (.inl none, pd_st (p3K (p2K K i t1 t2 s)) D (pd_RF q) J n) := by
  obtain ⟨d, rfl⟩ : ∃ e, d = e + 1 := ⟨d - 1, by omega⟩
  have hst := st_sh hi
  have e2 : Int32.ofNat lv + 2 = Int32.ofNat (lv + 2) := by rw [show (2 : Int32) = Int32.ofNat 2 from rfl, pd_addn]
  have z : (Int32.ofNat (lv + 2) ≤ 5) := by rw [show (5 : Int32) = Int32.ofNat 5 from rfl, pd_gtl (by omega) (by omega)]; omega
  have f1 := ev61 (xs := xs) (Ls := Ls) (D := D) (J := J) (n := n) (q := q) (d := d) (K := ptK K i) (by omega) ht1 h1 hj1
  have f2 := ev61 (xs := xs) (Ls := Ls) (D := D) (J := J) (n := n) (q := q) (d := d) (K := p1K K i t1) (by omega) ht2 h2 hj2
  have g1 := ev89 (xs := xs) (Ls := Ls) (D := D) (J := J) (n := n) (q := q) (d := d) (K := ptK K i) (i := t1) (j := i) (m := Int32.ofNat i) (f := ptK K i (28 + 3 * i) 4 + 1) (by omega) ht1 hi
  have g2 := ev89 (xs := xs) (Ls := Ls) (D := D) (J := J) (n := n) (q := q) (d := d) (K := p1K K i t1) (i := t2) (j := i) (m := Int32.ofNat i) (f := s) (by omega) ht2 hi
  have hst1 := st_sh ht1
  have hst2 := st_sh ht2
  have tl : ∀ (K2 : pd_I), pd_G xs Ls d pd_m60 (72, [some (.ref (6 : Nat)), some (.int (Int32.ofNat i)), some (.int s), some (.ref (28 + 3 * i))], [], pd_st K2 D (pd_RF q) J n) (.inl none, pd_st (p3K K2) D (pd_RF q) J n) := by
    intro K2
    have u1 : (mm_u K2 6 7 (K2 6 7 + 2)) 6 11 = K2 6 11 := mm_u_k (by decide)
    have u2 : ∀ w, (mm_u (mm_u K2 6 7 (K2 6 7 + 2)) 6 11 w) 6 8 = K2 6 8 := fun w => by rw [mm_u_k (by decide), mm_u_k (by decide)]
    simp only [p60_0, p60_1, p60_4, p60_5, p60_6, p60_7, p60_10, p60_20, p60_21, p60_24, p60_25, p60_26, p60_27, p60_28, p60_29, p60_32, p60_33, p60_34, p60_37, p60_38, p60_41, p60_42, p60_45, p60_46, p60_47, p60_48, p60_49, p60_52, p60_53, p60_54, p60_57, p60_58, p60_61, p60_62, p60_65, p60_66, p60_67, p60_68, p60_69, p60_72, p60_73, p60_74, p60_77, p60_78, p60_79, p60_82, p60_83, p60_84, p60_87, p60_88, p60_89, p60_92, p60_93, p60_94, p60_97, p60_98, p60_101, p60_104, p60_107, gf3_10 sh6, gf3_11 sh6, gf3_7 sh6, gf3_8 sh6, gf6_4 hst, mm_rV, pd_KinS2, pd_stI, pf3_11 sh6, pf3_7 sh6, pf3_8 sh6, pf6_0 hst, pf6_2 hst, qi0 sh6, qi3 hst, so4_3r, mm_lA, mm_lI, mm_lD, mm_lJ, mm_ld0, mm_lds, pd_Kgo, pd_Kend, pd_Kno, pd_Kite, mm_i, mm_ii, mm_r, mm_1, mm_icmp, cond_true, cond_false, mm_o2, mm_c2, wt0, wt1, wt2, wt3, wt4, va_rfs, pd_bkv, pd_bkn, pd_bkif, pd_st1, Nat.reduceAdd, Nat.reduceLeDiff, Bool.or_false, Bool.or_self, u1, u2, mm_u_s, ev135 (d := d) (by omega)]
    rfl
  have hT := tl (p2K K i t1 t2 s)
  generalize p3K (p2K K i t1 t2 s) = K9 at *
  have hP : mm_u (mm_u K (28 + 3 * i) 0 2) (28 + 3 * i) 2 2 = ptK K i := rfl
  refine pd_ev_of (Nat.le_of_ble_eq_true rfl) ?_; rw [show pd_mj 60 = pd_m60 from rfl, show mm_pad (mm_in [.ref (6 : Nat), .int (Int32.ofNat i), .int s]) pd_m60.nL = [some (.ref (6 : Nat)), some (.int (Int32.ofNat i)), some (.int s), none] from rfl]
  simp only [p60_0, p60_1, p60_4, p60_5, p60_6, p60_7, p60_10, p60_20, p60_21, p60_24, p60_25, p60_26, p60_27, p60_28, p60_29, p60_32, p60_33, p60_34, p60_38, p60_41, p60_42, p60_45, p60_46, p60_47, p60_48, p60_49, p60_52, p60_53, p60_54, p60_57, p60_58, p60_61, p60_62, p60_65, p60_66, p60_67, p60_68, p60_69, p60_73, p60_74, p60_77, p60_78, p60_79, p60_82, p60_83, p60_84, p60_87, p60_88, p60_89, p60_92, p60_93, p60_94, p60_97, p60_98, p60_101, p60_104, p60_107, gf3_10 sh6, gf3_11 sh6, gf3_7 sh6, gf3_8 sh6, gf6_4 hst, mm_rV, pd_KinS2, pd_stI, pf3_11 sh6, pf3_7 sh6, pf3_8 sh6, pf6_0 hst, pf6_2 hst, qi0 sh6, qi3 hst, so4_3r, mm_lA, mm_lI, mm_lD, mm_lJ, mm_ld0, mm_lds, pd_Kgo, pd_Kend, pd_Kno, pd_Kite, mm_i, mm_ii, mm_r, mm_1, mm_icmp, cond_true, cond_false, mm_o2, mm_c2, wt0, wt1, wt2, wt3, wt4, va_rfs, pd_bkv, pd_bkn, pd_bkif, pd_st1, Nat.reduceAdd, Nat.reduceLeDiff, Bool.or_false, Bool.or_self, h11, e2, if_pos z, rf_6a, pd_sa hi, hP]
  have hP1 : srK (ptK K i) t1 (Int32.ofNat i) (ptK K i (28 + 3 * i) 3) (ptK K i (28 + 3 * i) 4 + 1) (ptK K i (28 + 3 * i) 7) = p1K K i t1 := rfl
  have hP2 : srK (p1K K i t1) t2 (Int32.ofNat i) (p1K K i t1 (28 + 3 * i) 3) s (p1K K i t1 (28 + 3 * i) 7) = p2K K i t1 t2 s := rfl
  rw [hP1] at g1
  rw [hP2] at g2
  generalize p2K K i t1 t2 s = Kb at *
  generalize p1K K i t1 = Ka at *
  generalize ptK K i = Kp at *
  simp only [p60_0, p60_1, p60_4, p60_5, p60_6, p60_7, p60_10, p60_20, p60_21, p60_24, p60_25, p60_26, p60_27, p60_28, p60_29, p60_32, p60_33, p60_34, p60_37, p60_38, p60_41, p60_42, p60_45, p60_46, p60_47, p60_48, p60_49, p60_52, p60_53, p60_54, p60_57, p60_58, p60_61, p60_62, p60_65, p60_66, p60_67, p60_68, p60_69, p60_73, p60_74, p60_77, p60_78, p60_79, p60_82, p60_83, p60_84, p60_87, p60_88, p60_89, p60_92, p60_93, p60_94, p60_97, p60_98, p60_101, p60_104, p60_107, gf3_10 sh6, gf3_11 sh6, gf3_7 sh6, gf3_8 sh6, gf6_4 hst, mm_rV, pd_KinS2, pd_stI, pf3_11 sh6, pf3_7 sh6, pf3_8 sh6, pf6_0 hst, pf6_2 hst, qi0 sh6, qi3 hst, so4_3r, mm_lA, mm_lI, mm_lD, mm_lJ, mm_ld0, mm_lds, pd_Kgo, pd_Kend, pd_Kno, pd_Kite, mm_i, mm_ii, mm_r, mm_1, mm_icmp, cond_true, cond_false, mm_o2, mm_c2, wt0, wt1, wt2, wt3, wt4, va_rfs, pd_bkv, pd_bkn, pd_bkif, pd_st1, Nat.reduceAdd, Nat.reduceLeDiff, Bool.or_false, Bool.or_self, rf_6a, f1, f2, pd_sa ht1, pd_sa ht2, qi3 hst1, qi3 hst2, g1, g2]
  exact hT
end CL6
