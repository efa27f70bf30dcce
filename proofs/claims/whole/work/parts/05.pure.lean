section SIM
variable {p : Program} {l : Launch} {e : Env} {R : Room} {s : State} {m : MethodId} {args : Array Value} {below : List Frame} {meth : Method} {c : Code} {Q : State → Prop}
/-- from where the small machine stands the JVM comes to Q -/
def mm_J (p : Program) (l : Launch) (e : Env) (R : Room) (s : State) (m : MethodId) (args : Array Value) (below : List Frame) (meth : Method) (c : Code) (Q : State → Prop) (B b nL : Nat) (Rz : mm_St → Heap → List Loc → Nat → Nat → Prop) (z : mm_Z) : Prop :=
  ∀ (ls : Array Slot) (H : Heap) (locs : List Loc) (cells slots : Nat), mm_LR B b ls nL z.2.1 → Rz z.2.2.2 H locs cells slots → W p l e R s m args below meth c H locs cells slots Q (F0 m z.1 ls (z.2.2.1.map (mm_v B b)))
/-- how many locals an instruction needs -/
def mm_sti : Instr → Nat
  | .istore n | .astore n => n + 1
  | .istore_n n | .astore_n n => n.val + 1
  | .iinc n _ => n + 1
  | .lstore n | .dstore n => n + 2
  | .lstore_n n | .dstore_n n => n.val + 2
  | _ => 0
/-- the instructions that leave the cells alone -/
def mm_isP : Instr → Bool
  | .iconst _ | .bipush _ | .sipush _ | .lconst _ | .dconst _ | .aconst_null | .iload_n _ | .iload _ | .lload_n _ | .lload _ | .dload_n _ | .dload _ | .aload_n _ | .aload _ => true
  | .istore_n _ | .istore _ | .lstore_n _ | .lstore _ | .dstore_n _ | .dstore _ | .astore_n _ | .astore _ | .iinc _ _ => true
  | .iadd | .isub | .imul | .idiv | .irem | .ineg | .iand | .ior | .ixor | .ishl | .ishr | .iushr | .ladd | .lsub | .land | .lor | .lushr | .lshr | .lshl | .i2l | .l2i | .i2c | .i2b | .i2d | .d2i => true
  | .dadd | .dsub | .dmul | .ddiv | .dneg | .dcmp _ | .lcmp | .dup | .pop | .dup_x1 | .dup_x2 | .dup2 | .goto _ | .ifCond _ _ | .if_icmp _ _ | .ifnull _ | .ifnonnull _ | .tableswitch _ _ _ _ | .lookupswitch _ _ => true
  | _ => false
theorem mm_tsw_at {x : Int32} {k : Int → mm_N} {d lo : Int} {os : List Int} {z : mm_Z ⊕ mm_O} (h : mm_tsw x k d lo os = some z) (hlo : -2147483648 ≤ lo) (hhi : lo + os.length ≤ 2147483648) :
    ((x.toInt < lo ∨ lo + os.length ≤ x.toInt) ∧ k d = some z) ∨ (∃ o, ¬ x.toInt < lo ∧ os[(x.toInt - lo).toNat]? = some o ∧ k o = some z) := by
  induction os generalizing lo with
  | nil => exact Or.inl ⟨by simp only [List.length_nil]; omega, h⟩
  | cons o os ih =>
    have hl : ((o :: os).length : Int) = os.length + 1 := by simp
    rw [hl] at hhi
    have hlt : (Int32.ofInt lo).toInt = lo := by
      rw [Int32.toInt_ofInt_of_le (by omega) (by omega)]
    unfold mm_tsw at h
    split at h
    next hx =>
      have hx2 : x.toInt = lo := by rw [hx, hlt]
      exact Or.inr ⟨o, by omega, by rw [hx2, Int.sub_self]; rfl, h⟩
    next hx =>
      have hne : x.toInt ≠ lo := fun q => hx (Int32.toInt_inj.mp (by rw [hlt]; exact q))
      rcases ih h (by omega) (by omega) with ⟨h1, h2⟩ | ⟨o2, h1, h2, h3⟩
      · exact Or.inl ⟨by rw [hl]; omega, h2⟩
      · refine Or.inr ⟨o2, by omega, ?_, h3⟩
        rw [show (x.toInt - lo).toNat = (x.toInt - (lo + 1)).toNat + 1 by omega]
        exact h2
theorem mm_lsw_at {x : Int32} {k : Int → mm_N} {d : Int} {ps : List (Int × Int)} {z : mm_Z ⊕ mm_O} (h : mm_lsw x k d ps = some z) (hp : ∀ q ∈ ps, (Int32.ofInt q.1).toInt = q.1) : k (Op.lookupswitch.offset ps d x.toInt) = some z ∧ (Op.lookupswitch.offset ps d x.toInt = d ∨ ∃ q ∈ ps, q.2 = Op.lookupswitch.offset ps d x.toInt) := by
  induction ps with
  | nil => exact ⟨h, Or.inl rfl⟩
  | cons q ps ih =>
    obtain ⟨a, o⟩ := q
    have hq : (Int32.ofInt a).toInt = a := hp (a, o) List.mem_cons_self
    unfold mm_lsw at h
    rw [Op.lookupswitch.offset_cons]
    split at h
    next hx =>
      have hx2 : x.toInt = a := by rw [hx, hq]
      rw [if_pos hx2.symm]
      exact ⟨h, Or.inr ⟨(a, o), List.mem_cons_self, rfl⟩⟩
    next hx =>
      have hne : ¬ a = x.toInt := fun q => hx (Int32.toInt_inj.mp (by rw [hq]; exact q.symm))
      rw [if_neg hne]
      obtain ⟨h1, h2⟩ := ih h fun q hq => hp q (List.mem_cons_of_mem _ hq)
      refine ⟨h1, ?_⟩
      rcases h2 with h2 | ⟨q, hq, h2⟩
      · exact Or.inl h2
      · exact Or.inr ⟨q, List.mem_cons_of_mem _ hq, h2⟩
/-- what a switch must be: its numbers are ints, in order -/
def mm_swok : Instr → Bool
  | .tableswitch _ lo hi os => decide (-2147483648 ≤ lo) && decide (lo + os.toList.length ≤ 2147483648) && decide (lo + os.toList.length = hi + 1)
  | .lookupswitch _ ps => (ps.toList.all fun q => decide ((Int32.ofInt q.1).toInt = q.1)) && (ps.toList.zip (ps.toList.drop 1)).all (fun (a, next) => a.1 < next.1)
  | _ => true
set_option maxHeartbeats 4000000 in
set_option maxRecDepth 100000 in
theorem mm_pure {call : Nat → List Value → mm_St → Option mm_O} {xs : Nat → Int32} {Ls : Nat} {ck : Nat → List Nat} {ak : Nat → FieldType} {me : mm_Me} {cc : ByteArray} {B b nL pc : Nat} {L : mm_L} {st : List Value} {S : mm_St} {z' : mm_Z} {Rz : mm_St → Heap → List Loc → Nat → Nat → Prop}
    (hx : p.tables.exec = Jvm.exec) (hb : c.code = cc) (i : Instr) (hd0 : ∃ n, decode cc pc = .ok (i, n)) (hd : mm_len i ≠ 0 → decode cc pc = .ok (i, mm_len i)) (ht : ∀ o ∈ mm_offs i, 0 ≤ (pc : Int) + o) (hn : mm_sti i ≤ nL) (hsw : mm_swok i = true) (hp : mm_isP i = true)
    (h : mm_do call xs Ls ck ak me pc L st S i = some (.inl z')) (k : mm_J p l e R s m args below meth c Q B b nL Rz z') : mm_J p l e R s m args below meth c Q B b nL Rz (pc, L, st, S) := by
  cases i with
  | iconst n =>
    cases h
    exact fun ls H locs cells slots hL hR => lv_iconst hx hb (hd (by simp [mm_len])) rfl (k ls H locs cells slots hL hR)
  | bipush n =>
    cases h
    exact fun ls H locs cells slots hL hR => lv_bipush hx hb (hd (by simp [mm_len])) rfl (k ls H locs cells slots hL hR)
  | sipush n =>
    cases h
    exact fun ls H locs cells slots hL hR => lv_sipush hx hb (hd (by simp [mm_len])) rfl (k ls H locs cells slots hL hR)
  | lconst n =>
    cases h
    exact fun ls H locs cells slots hL hR => lv_lconst hx hb (hd (by simp [mm_len])) rfl (k ls H locs cells slots hL hR)
  | dconst n =>
    cases h
    match n, hd, k with
    | 0, hd, k => exact fun ls H locs cells slots hL hR => lv_dconst0 hx hb (hd (by simp [mm_len])) (k ls H locs cells slots hL hR)
    | 1, hd, k => exact fun ls H locs cells slots hL hR => lv_dconst1 hx hb (hd (by simp [mm_len])) (k ls H locs cells slots hL hR)
  | aconst_null =>
    cases h
    exact fun ls H locs cells slots hL hR => lv_null hx hb (hd (by simp [mm_len])) (k ls H locs cells slots hL hR)
  | iload_n n =>
    obtain ⟨x, hv, h⟩ := mm_lI_inv h
    cases h
    exact fun ls H locs cells slots hL hR => lv_iload_n hx hb (hd (by simp [mm_len])) rfl (hL.2.2 _ _ hv) (k ls H locs cells slots hL hR)
  | iload n =>
    obtain ⟨x, hv, h⟩ := mm_lI_inv h
    cases h
    exact fun ls H locs cells slots hL hR => lv_iload hx hb (hd (by simp [mm_len])) (hL.2.2 _ _ hv) (k ls H locs cells slots hL hR)
  | lload_n n =>
    obtain ⟨x, hv, h⟩ := mm_lJ_inv h
    cases h
    exact fun ls H locs cells slots hL hR => lv_lload_n hx hb (hd (by simp [mm_len])) rfl (hL.2.2 _ _ hv) (k ls H locs cells slots hL hR)
  | lload n =>
    obtain ⟨x, hv, h⟩ := mm_lJ_inv h
    cases h
    exact fun ls H locs cells slots hL hR => lv_lload hx hb (hd (by simp [mm_len])) (hL.2.2 _ _ hv) (k ls H locs cells slots hL hR)
  | dload_n n =>
    obtain ⟨x, hv, h⟩ := mm_lD_inv h
    cases h
    exact fun ls H locs cells slots hL hR => lv_dload_n hx hb (hd (by simp [mm_len])) rfl (hL.2.2 _ _ hv) (k ls H locs cells slots hL hR)
  | dload n =>
    obtain ⟨x, hv, h⟩ := mm_lD_inv h
    cases h
    exact fun ls H locs cells slots hL hR => lv_dload hx hb (hd (by simp [mm_len])) (hL.2.2 _ _ hv) (k ls H locs cells slots hL hR)
  | aload_n n =>
    have h : (mm_lA L n fun v => mm_go (pc + 1) L (v :: st) S) = some (.inl z') := h
    rcases mm_lA_inv h with ⟨x, hv, h⟩ | ⟨x, hv, h⟩
    · cases h
      exact fun ls H locs cells slots hL hR => lv_aload_n hx hb (hd (by simp [mm_len])) rfl (hL.2.2 _ _ hv) (k ls H locs cells slots hL hR)
    · cases h
      exact fun ls H locs cells slots hL hR => lv_aload_n hx hb (hd (by simp [mm_len])) rfl (hL.2.2 _ _ hv) (k ls H locs cells slots hL hR)
  | aload n =>
    have h : (mm_lA L n fun v => mm_go (pc + 2) L (v :: st) S) = some (.inl z') := h
    rcases mm_lA_inv h with ⟨x, hv, h⟩ | ⟨x, hv, h⟩
    · cases h
      exact fun ls H locs cells slots hL hR => lv_aload hx hb (hd (by simp [mm_len])) (hL.2.2 _ _ hv) (k ls H locs cells slots hL hR)
    · cases h
      exact fun ls H locs cells slots hL hR => lv_aload hx hb (hd (by simp [mm_len])) (hL.2.2 _ _ hv) (k ls H locs cells slots hL hR)
  | istore_n n =>
    obtain ⟨x, r, rfl, h⟩ := mm_i_inv h
    cases h
    exact fun ls H locs cells slots hL hR => lv_istore_n hx hb (hd (by simp [mm_len])) rfl hL.has (by simp only [mm_sti] at hn; omega) rfl (fun ls' hl' => k ls' H locs cells slots (mm_LR.st1 (v := .int x) rfl hl') hR)
  | istore n =>
    obtain ⟨x, r, rfl, h⟩ := mm_i_inv h
    cases h
    exact fun ls H locs cells slots hL hR => lv_istore hx hb (hd (by simp [mm_len])) hL.has (by simp only [mm_sti] at hn; omega) rfl (fun ls' hl' => k ls' H locs cells slots (mm_LR.st1 (v := .int x) rfl hl') hR)
  | astore_n n =>
    obtain ⟨x, r, rfl, h⟩ := mm_r_inv h
    cases h
    exact fun ls H locs cells slots hL hR => lv_astore_n hx hb (hd (by simp [mm_len])) rfl hL.has (by simp only [mm_sti] at hn; omega) rfl (fun ls' hl' => k ls' H locs cells slots (mm_LR.st1 (v := .ref x) rfl hl') hR)
  | astore n =>
    obtain ⟨x, r, rfl, h⟩ := mm_r_inv h
    cases h
    exact fun ls H locs cells slots hL hR => lv_astore hx hb (hd (by simp [mm_len])) hL.has (by simp only [mm_sti] at hn; omega) rfl (fun ls' hl' => k ls' H locs cells slots (mm_LR.st1 (v := .ref x) rfl hl') hR)
  | lstore_n n =>
    obtain ⟨x, r, rfl, h⟩ := mm_j_inv h
    cases h
    exact fun ls H locs cells slots hL hR => lv_lstore_n hx hb (hd (by simp [mm_len])) rfl hL.has (by simp only [mm_sti] at hn; omega) rfl (fun ls' hl' => k ls' H locs cells slots (mm_LR.st2 (v := .long x) rfl hl') hR)
  | lstore n =>
    obtain ⟨x, r, rfl, h⟩ := mm_j_inv h
    cases h
    exact fun ls H locs cells slots hL hR => lv_lstore hx hb (hd (by simp [mm_len])) hL.has (by simp only [mm_sti] at hn; omega) rfl (fun ls' hl' => k ls' H locs cells slots (mm_LR.st2 (v := .long x) rfl hl') hR)
  | dstore_n n =>
    obtain ⟨x, r, rfl, h⟩ := mm_d_inv h
    cases h
    exact fun ls H locs cells slots hL hR => lv_dstore_n hx hb (hd (by simp [mm_len])) rfl hL.has (by simp only [mm_sti] at hn; omega) rfl (fun ls' hl' => k ls' H locs cells slots (mm_LR.st2 (v := .double x) rfl hl') hR)
  | dstore n =>
    obtain ⟨x, r, rfl, h⟩ := mm_d_inv h
    cases h
    exact fun ls H locs cells slots hL hR => lv_dstore hx hb (hd (by simp [mm_len])) hL.has (by simp only [mm_sti] at hn; omega) rfl (fun ls' hl' => k ls' H locs cells slots (mm_LR.st2 (v := .double x) rfl hl') hR)
  | iinc n z =>
    obtain ⟨x, hv, h⟩ := mm_lI_inv h
    cases h
    intro ls H locs cells slots hL hR
    obtain ⟨j, hj⟩ := List.getElem?_of_mem (mm_as_mem (B := B) (b := b) hv)
    exact lv_iinc hx hb (hd (by simp [mm_len])) hL.has hj rfl (by simp only [mm_sti] at hn; omega) rfl (fun ls' hl' => k ls' H locs cells slots (mm_LR.st1 (v := .int (x + Int32.ofInt z)) rfl hl') hR)
  | iadd =>
    obtain ⟨x, y, r, rfl, h⟩ := mm_ii_inv h
    cases h
    exact fun ls H locs cells slots hL hR => lv_iadd hx hb (hd (by simp [mm_len])) (k ls H locs cells slots hL hR)
  | isub =>
    obtain ⟨x, y, r, rfl, h⟩ := mm_ii_inv h
    cases h
    exact fun ls H locs cells slots hL hR => lv_isub hx hb (hd (by simp [mm_len])) (k ls H locs cells slots hL hR)
  | imul =>
    obtain ⟨x, y, r, rfl, h⟩ := mm_ii_inv h
    cases h
    exact fun ls H locs cells slots hL hR => lv_imul hx hb (hd (by simp [mm_len])) (k ls H locs cells slots hL hR)
  | iand =>
    obtain ⟨x, y, r, rfl, h⟩ := mm_ii_inv h
    cases h
    exact fun ls H locs cells slots hL hR => lv_iand hx hb (hd (by simp [mm_len])) (k ls H locs cells slots hL hR)
  | ior =>
    obtain ⟨x, y, r, rfl, h⟩ := mm_ii_inv h
    cases h
    exact fun ls H locs cells slots hL hR => lv_ior hx hb (hd (by simp [mm_len])) (k ls H locs cells slots hL hR)
  | ixor =>
    obtain ⟨x, y, r, rfl, h⟩ := mm_ii_inv h
    cases h
    exact fun ls H locs cells slots hL hR => lv_ixor hx hb (hd (by simp [mm_len])) (k ls H locs cells slots hL hR)
  | ishl =>
    obtain ⟨x, y, r, rfl, h⟩ := mm_ii_inv h
    cases h
    exact fun ls H locs cells slots hL hR => lv_ishl hx hb (hd (by simp [mm_len])) (k ls H locs cells slots hL hR)
  | ishr =>
    obtain ⟨x, y, r, rfl, h⟩ := mm_ii_inv h
    cases h
    exact fun ls H locs cells slots hL hR => lv_ishr hx hb (hd (by simp [mm_len])) (k ls H locs cells slots hL hR)
  | iushr =>
    obtain ⟨x, y, r, rfl, h⟩ := mm_ii_inv h
    cases h
    exact fun ls H locs cells slots hL hR => lv_iushr hx hb (hd (by simp [mm_len])) rfl (k ls H locs cells slots hL hR)
  | idiv =>
    obtain ⟨x, y, r, rfl, h⟩ := mm_ii_inv h
    have h : (if y = 0 then none else mm_go (pc + 1) L (.int (x / y) :: r) S) = some (.inl z') := h
    by_cases hy : y = 0
    · rw [if_pos hy] at h; cases h
    · rw [if_neg hy] at h
      cases h
      exact fun ls H locs cells slots hL hR => lv_idiv hx hb (hd (by simp [mm_len])) hy (k ls H locs cells slots hL hR)
  | irem =>
    obtain ⟨x, y, r, rfl, h⟩ := mm_ii_inv h
    have h : (if y = 0 then none else mm_go (pc + 1) L (.int (x - x / y * y) :: r) S) = some (.inl z') := h
    by_cases hy : y = 0
    · rw [if_pos hy] at h; cases h
    · rw [if_neg hy] at h
      cases h
      exact fun ls H locs cells slots hL hR => lv_irem hx hb (hd (by simp [mm_len])) hy (k ls H locs cells slots hL hR)
  | ineg =>
    obtain ⟨x, r, rfl, h⟩ := mm_i_inv h
    cases h
    exact fun ls H locs cells slots hL hR => lv_ineg hx hb (hd (by simp [mm_len])) (k ls H locs cells slots hL hR)
  | ladd =>
    obtain ⟨x, y, r, rfl, h⟩ := mm_jj_inv h
    cases h
    exact fun ls H locs cells slots hL hR => lv_ladd hx hb (hd (by simp [mm_len])) (k ls H locs cells slots hL hR)
  | lsub =>
    obtain ⟨x, y, r, rfl, h⟩ := mm_jj_inv h
    cases h
    exact fun ls H locs cells slots hL hR => lv_lsub hx hb (hd (by simp [mm_len])) (k ls H locs cells slots hL hR)
  | land =>
    obtain ⟨x, y, r, rfl, h⟩ := mm_jj_inv h
    cases h
    exact fun ls H locs cells slots hL hR => lv_land hx hb (hd (by simp [mm_len])) (k ls H locs cells slots hL hR)
  | lor =>
    obtain ⟨x, y, r, rfl, h⟩ := mm_jj_inv h
    cases h
    exact fun ls H locs cells slots hL hR => lv_lor hx hb (hd (by simp [mm_len])) (k ls H locs cells slots hL hR)
  | lcmp =>
    obtain ⟨x, y, r, rfl, h⟩ := mm_jj_inv h
    cases h
    exact fun ls H locs cells slots hL hR => W.lcmp hx hb (hd (by simp [mm_len])) (k ls H locs cells slots hL hR)
  | lushr =>
    obtain ⟨x, y, r, rfl, h⟩ := mm_ji_inv h
    cases h
    exact fun ls H locs cells slots hL hR => lv_lushr hx hb (hd (by simp [mm_len])) rfl (k ls H locs cells slots hL hR)
  | lshr =>
    obtain ⟨x, y, r, rfl, h⟩ := mm_ji_inv h
    cases h
    exact fun ls H locs cells slots hL hR => lv_lshr hx hb (hd (by simp [mm_len])) rfl (k ls H locs cells slots hL hR)
  | lshl =>
    obtain ⟨x, y, r, rfl, h⟩ := mm_ji_inv h
    cases h
    exact fun ls H locs cells slots hL hR => lv_lshl hx hb (hd (by simp [mm_len])) rfl (k ls H locs cells slots hL hR)
  | i2l =>
    obtain ⟨x, r, rfl, h⟩ := mm_i_inv h
    cases h
    exact fun ls H locs cells slots hL hR => lv_i2l hx hb (hd (by simp [mm_len])) rfl (k ls H locs cells slots hL hR)
  | l2i =>
    obtain ⟨x, r, rfl, h⟩ := mm_j_inv h
    cases h
    exact fun ls H locs cells slots hL hR => lv_l2i hx hb (hd (by simp [mm_len])) rfl (k ls H locs cells slots hL hR)
  | i2c =>
    obtain ⟨x, r, rfl, h⟩ := mm_i_inv h
    cases h
    exact fun ls H locs cells slots hL hR => lv_i2c hx hb (hd (by simp [mm_len])) rfl (k ls H locs cells slots hL hR)
  | i2b =>
    obtain ⟨x, r, rfl, h⟩ := mm_i_inv h
    cases h
    exact fun ls H locs cells slots hL hR => lv_i2b hx hb (hd (by simp [mm_len])) rfl (k ls H locs cells slots hL hR)
  | i2d =>
    obtain ⟨x, r, rfl, h⟩ := mm_i_inv h
    cases h
    exact fun ls H locs cells slots hL hR => lv_i2d hx hb (hd (by simp [mm_len])) (k ls H locs cells slots hL hR)
  | d2i =>
    obtain ⟨x, r, rfl, h⟩ := mm_d_inv h
    cases h
    exact fun ls H locs cells slots hL hR => lv_d2i hx hb (hd (by simp [mm_len])) (k ls H locs cells slots hL hR)
  | dneg =>
    obtain ⟨x, r, rfl, h⟩ := mm_d_inv h
    cases h
    exact fun ls H locs cells slots hL hR => lv_dneg hx hb (hd (by simp [mm_len])) (k ls H locs cells slots hL hR)
  | dadd =>
    obtain ⟨x, y, r, rfl, h⟩ := mm_dd_inv h
    obtain ⟨hq, h⟩ := mm_cond_inv h
    cases h
    exact fun ls H locs cells slots hL hR => lv_dadd hx hb (hd (by simp [mm_len])) (show vf_n64 _ from of_decide_eq_true (p := FP.dadd x y &&& 0x7fffffffffffffff ≤ 0x7ff0000000000000) hq) (k ls H locs cells slots hL hR)
  | dsub =>
    obtain ⟨x, y, r, rfl, h⟩ := mm_dd_inv h
    obtain ⟨hq, h⟩ := mm_cond_inv h
    cases h
    exact fun ls H locs cells slots hL hR => lv_dsub hx hb (hd (by simp [mm_len])) (show vf_n64 _ from of_decide_eq_true (p := FP.dsub x y &&& 0x7fffffffffffffff ≤ 0x7ff0000000000000) hq) (k ls H locs cells slots hL hR)
  | dmul =>
    obtain ⟨x, y, r, rfl, h⟩ := mm_dd_inv h
    obtain ⟨hq, h⟩ := mm_cond_inv h
    cases h
    exact fun ls H locs cells slots hL hR => lv_dmul hx hb (hd (by simp [mm_len])) (show vf_n64 _ from of_decide_eq_true (p := FP.dmul x y &&& 0x7fffffffffffffff ≤ 0x7ff0000000000000) hq) (k ls H locs cells slots hL hR)
  | ddiv =>
    obtain ⟨x, y, r, rfl, h⟩ := mm_dd_inv h
    obtain ⟨hq, h⟩ := mm_cond_inv h
    cases h
    exact fun ls H locs cells slots hL hR => lv_ddiv hx hb (hd (by simp [mm_len])) (show vf_n64 _ from of_decide_eq_true (p := FP.ddiv x y &&& 0x7fffffffffffffff ≤ 0x7ff0000000000000) hq) (k ls H locs cells slots hL hR)
  | dcmp op =>
    obtain ⟨x, y, r, rfl, h⟩ := mm_dd_inv h
    cases h
    exact fun ls H locs cells slots hL hR => lv_dcmp hx hb (hd (by simp [mm_len])) (k ls H locs cells slots hL hR)
  | dup =>
    obtain ⟨v, r, rfl, h⟩ := mm_1_inv h
    obtain ⟨hv, h⟩ := mm_condn_inv h
    cases h
    exact fun ls H locs cells slots hL hR => lv_dup hx hb (hd (by simp [mm_len])) (by rw [mm_v_cat, hv]; rfl) (k ls H locs cells slots hL hR)
  | pop =>
    obtain ⟨v, r, rfl, h⟩ := mm_1_inv h
    obtain ⟨hv, h⟩ := mm_condn_inv h
    cases h
    exact fun ls H locs cells slots hL hR => lv_pop hx hb (hd (by simp [mm_len])) (by rw [mm_v_cat, hv]; rfl) (k ls H locs cells slots hL hR)
  | dup_x1 =>
    obtain ⟨v, w, r, rfl, h⟩ := mm_2_inv h
    obtain ⟨hv, h⟩ := mm_condn_inv h
    rw [Bool.or_eq_false_iff] at hv
    cases h
    exact fun ls H locs cells slots hL hR => lv_dup_x1 hx hb (hd (by simp [mm_len])) (by rw [mm_v_cat, hv.1]; rfl) (by rw [mm_v_cat, hv.2]; rfl) (k ls H locs cells slots hL hR)
  | dup2 =>
    obtain ⟨v, w, r, rfl, h⟩ := mm_2_inv h
    obtain ⟨hv, h⟩ := mm_condn_inv h
    rw [Bool.or_eq_false_iff] at hv
    cases h
    exact fun ls H locs cells slots hL hR => lv_dup2_11 hx hb (hd (by simp [mm_len])) (by rw [mm_v_cat, hv.1]; rfl) (by rw [mm_v_cat, hv.2]; rfl) (k ls H locs cells slots hL hR)
  | dup_x2 =>
    obtain ⟨v, w, u, r, rfl, h⟩ := mm_3_inv h
    obtain ⟨hv, h⟩ := mm_condn_inv h
    rw [Bool.or_eq_false_iff, Bool.or_eq_false_iff] at hv
    cases h
    exact fun ls H locs cells slots hL hR => lv_dup_x2 hx hb (hd (by simp [mm_len])) (by rw [mm_v_cat, hv.1]; rfl) (by rw [mm_v_cat, hv.2.1]; rfl) (by rw [mm_v_cat, hv.2.2]; rfl) (k ls H locs cells slots hL hR)
  | goto o =>
    cases h
    exact fun ls H locs cells slots hL hR => lv_goto hx hb (hd (by simp [mm_len])) (mm_tg_eq (ht o (by simp [mm_offs]))) (k ls H locs cells slots hL hR)
  | ifCond cn o =>
    obtain ⟨x, r, rfl, h⟩ := mm_i_inv h
    cases cn with
    | eq =>
      have h : (if x = 0 then mm_go (mm_tg pc o) L r S else mm_go (pc + 3) L r S) = some (.inl z') := h
      by_cases hc : x = 0
      · rw [if_pos hc] at h
        cases h
        exact fun ls H locs cells slots hL hR => lv_if_eq hx hb (hd (by simp [mm_len])) (mm_tg_eq (ht o (by simp [mm_offs]))) (fun _ => (k ls H locs cells slots hL hR)) (fun q => absurd hc q)
      · rw [if_neg hc] at h
        cases h
        exact fun ls H locs cells slots hL hR => lv_if_eq hx hb (hd (by simp [mm_len])) (mm_tg_eq (ht o (by simp [mm_offs]))) (fun q => absurd q hc) (fun _ => (k ls H locs cells slots hL hR))
    | ne =>
      have h : (if x = 0 then mm_go (pc + 3) L r S else mm_go (mm_tg pc o) L r S) = some (.inl z') := h
      by_cases hc : x = 0
      · rw [if_pos hc] at h
        cases h
        exact fun ls H locs cells slots hL hR => lv_if_ne hx hb (hd (by simp [mm_len])) (mm_tg_eq (ht o (by simp [mm_offs]))) (fun q => absurd hc q) (fun _ => (k ls H locs cells slots hL hR))
      · rw [if_neg hc] at h
        cases h
        exact fun ls H locs cells slots hL hR => lv_if_ne hx hb (hd (by simp [mm_len])) (mm_tg_eq (ht o (by simp [mm_offs]))) (fun _ => (k ls H locs cells slots hL hR)) (fun q => absurd q hc)
    | lt =>
      have h : (if x < 0 then mm_go (mm_tg pc o) L r S else mm_go (pc + 3) L r S) = some (.inl z') := h
      by_cases hc : x < 0
      · rw [if_pos hc] at h
        cases h
        exact fun ls H locs cells slots hL hR => lv_if_lt hx hb (hd (by simp [mm_len])) (mm_tg_eq (ht o (by simp [mm_offs]))) (fun _ => (k ls H locs cells slots hL hR)) (fun q => absurd hc q)
      · rw [if_neg hc] at h
        cases h
        exact fun ls H locs cells slots hL hR => lv_if_lt hx hb (hd (by simp [mm_len])) (mm_tg_eq (ht o (by simp [mm_offs]))) (fun q => absurd q hc) (fun _ => (k ls H locs cells slots hL hR))
    | ge =>
      have h : (if 0 ≤ x then mm_go (mm_tg pc o) L r S else mm_go (pc + 3) L r S) = some (.inl z') := h
      by_cases hc : 0 ≤ x
      · rw [if_pos hc] at h
        cases h
        exact fun ls H locs cells slots hL hR => lv_if_ge hx hb (hd (by simp [mm_len])) (mm_tg_eq (ht o (by simp [mm_offs]))) (fun _ => (k ls H locs cells slots hL hR)) (fun q => absurd hc q)
      · rw [if_neg hc] at h
        cases h
        exact fun ls H locs cells slots hL hR => lv_if_ge hx hb (hd (by simp [mm_len])) (mm_tg_eq (ht o (by simp [mm_offs]))) (fun q => absurd q hc) (fun _ => (k ls H locs cells slots hL hR))
    | gt =>
      have h : (if 0 < x then mm_go (mm_tg pc o) L r S else mm_go (pc + 3) L r S) = some (.inl z') := h
      by_cases hc : 0 < x
      · rw [if_pos hc] at h
        cases h
        exact fun ls H locs cells slots hL hR => lv_if_gt hx hb (hd (by simp [mm_len])) (mm_tg_eq (ht o (by simp [mm_offs]))) (fun _ => (k ls H locs cells slots hL hR)) (fun q => absurd hc q)
      · rw [if_neg hc] at h
        cases h
        exact fun ls H locs cells slots hL hR => lv_if_gt hx hb (hd (by simp [mm_len])) (mm_tg_eq (ht o (by simp [mm_offs]))) (fun q => absurd q hc) (fun _ => (k ls H locs cells slots hL hR))
    | le =>
      have h : (if x ≤ 0 then mm_go (mm_tg pc o) L r S else mm_go (pc + 3) L r S) = some (.inl z') := h
      by_cases hc : x ≤ 0
      · rw [if_pos hc] at h
        cases h
        exact fun ls H locs cells slots hL hR => lv_if_le hx hb (hd (by simp [mm_len])) (mm_tg_eq (ht o (by simp [mm_offs]))) (fun _ => (k ls H locs cells slots hL hR)) (fun q => absurd hc q)
      · rw [if_neg hc] at h
        cases h
        exact fun ls H locs cells slots hL hR => lv_if_le hx hb (hd (by simp [mm_len])) (mm_tg_eq (ht o (by simp [mm_offs]))) (fun q => absurd q hc) (fun _ => (k ls H locs cells slots hL hR))
  | if_icmp cn o =>
    obtain ⟨x, y, r, rfl, h⟩ := mm_ii_inv h
    cases cn with
    | eq =>
      have h : (if x = y then mm_go (mm_tg pc o) L r S else mm_go (pc + 3) L r S) = some (.inl z') := h
      by_cases hc : x = y
      · rw [if_pos hc] at h
        cases h
        exact fun ls H locs cells slots hL hR => lv_icmp_eq hx hb (hd (by simp [mm_len])) (mm_tg_eq (ht o (by simp [mm_offs]))) (fun _ => (k ls H locs cells slots hL hR)) (fun q => absurd hc q)
      · rw [if_neg hc] at h
        cases h
        exact fun ls H locs cells slots hL hR => lv_icmp_eq hx hb (hd (by simp [mm_len])) (mm_tg_eq (ht o (by simp [mm_offs]))) (fun q => absurd q hc) (fun _ => (k ls H locs cells slots hL hR))
    | ne =>
      have h : (if x = y then mm_go (pc + 3) L r S else mm_go (mm_tg pc o) L r S) = some (.inl z') := h
      by_cases hc : x = y
      · rw [if_pos hc] at h
        cases h
        exact fun ls H locs cells slots hL hR => lv_icmp_ne hx hb (hd (by simp [mm_len])) (mm_tg_eq (ht o (by simp [mm_offs]))) (fun q => absurd hc q) (fun _ => (k ls H locs cells slots hL hR))
      · rw [if_neg hc] at h
        cases h
        exact fun ls H locs cells slots hL hR => lv_icmp_ne hx hb (hd (by simp [mm_len])) (mm_tg_eq (ht o (by simp [mm_offs]))) (fun _ => (k ls H locs cells slots hL hR)) (fun q => absurd q hc)
    | lt =>
      have h : (if x < y then mm_go (mm_tg pc o) L r S else mm_go (pc + 3) L r S) = some (.inl z') := h
      by_cases hc : x < y
      · rw [if_pos hc] at h
        cases h
        exact fun ls H locs cells slots hL hR => lv_icmp_lt hx hb (hd (by simp [mm_len])) (mm_tg_eq (ht o (by simp [mm_offs]))) (fun _ => (k ls H locs cells slots hL hR)) (fun q => absurd hc q)
      · rw [if_neg hc] at h
        cases h
        exact fun ls H locs cells slots hL hR => lv_icmp_lt hx hb (hd (by simp [mm_len])) (mm_tg_eq (ht o (by simp [mm_offs]))) (fun q => absurd q hc) (fun _ => (k ls H locs cells slots hL hR))
    | ge =>
      have h : (if y ≤ x then mm_go (mm_tg pc o) L r S else mm_go (pc + 3) L r S) = some (.inl z') := h
      by_cases hc : y ≤ x
      · rw [if_pos hc] at h
        cases h
        exact fun ls H locs cells slots hL hR => lv_icmp_ge hx hb (hd (by simp [mm_len])) (mm_tg_eq (ht o (by simp [mm_offs]))) (fun _ => (k ls H locs cells slots hL hR)) (fun q => absurd hc q)
      · rw [if_neg hc] at h
        cases h
        exact fun ls H locs cells slots hL hR => lv_icmp_ge hx hb (hd (by simp [mm_len])) (mm_tg_eq (ht o (by simp [mm_offs]))) (fun q => absurd q hc) (fun _ => (k ls H locs cells slots hL hR))
    | gt =>
      have h : (if y < x then mm_go (mm_tg pc o) L r S else mm_go (pc + 3) L r S) = some (.inl z') := h
      by_cases hc : y < x
      · rw [if_pos hc] at h
        cases h
        exact fun ls H locs cells slots hL hR => lv_icmp_gt hx hb (hd (by simp [mm_len])) (mm_tg_eq (ht o (by simp [mm_offs]))) (fun _ => (k ls H locs cells slots hL hR)) (fun q => absurd hc q)
      · rw [if_neg hc] at h
        cases h
        exact fun ls H locs cells slots hL hR => lv_icmp_gt hx hb (hd (by simp [mm_len])) (mm_tg_eq (ht o (by simp [mm_offs]))) (fun q => absurd q hc) (fun _ => (k ls H locs cells slots hL hR))
    | le =>
      have h : (if x ≤ y then mm_go (mm_tg pc o) L r S else mm_go (pc + 3) L r S) = some (.inl z') := h
      by_cases hc : x ≤ y
      · rw [if_pos hc] at h
        cases h
        exact fun ls H locs cells slots hL hR => lv_icmp_le hx hb (hd (by simp [mm_len])) (mm_tg_eq (ht o (by simp [mm_offs]))) (fun _ => (k ls H locs cells slots hL hR)) (fun q => absurd hc q)
      · rw [if_neg hc] at h
        cases h
        exact fun ls H locs cells slots hL hR => lv_icmp_le hx hb (hd (by simp [mm_len])) (mm_tg_eq (ht o (by simp [mm_offs]))) (fun q => absurd q hc) (fun _ => (k ls H locs cells slots hL hR))
  | ifnull o =>
    obtain ⟨v, r, rfl, h⟩ := mm_1_inv h
    cases v with
    | ref a =>
      cases h
      exact fun ls H locs cells slots hL hR => lv_ifnull hx hb (hd (by simp [mm_len])) (k ls H locs cells slots hL hR)
    | null =>
      cases h
      exact fun ls H locs cells slots hL hR => lv_ifnullN hx hb (hd (by simp [mm_len])) (mm_tg_eq (ht o (by simp [mm_offs]))) (k ls H locs cells slots hL hR)
    | _ => cases h
  | ifnonnull o =>
    obtain ⟨v, r, rfl, h⟩ := mm_1_inv h
    cases v with
    | ref a =>
      cases h
      exact fun ls H locs cells slots hL hR => lv_ifnonnull hx hb (hd (by simp [mm_len])) (mm_tg_eq (ht o (by simp [mm_offs]))) (k ls H locs cells slots hL hR)
    | null =>
      cases h
      exact fun ls H locs cells slots hL hR => lv_ifnonnullN hx hb (hd (by simp [mm_len])) (k ls H locs cells slots hL hR)
    | _ => cases h
  | tableswitch d lo hi os =>
    obtain ⟨x, r, rfl, h⟩ := mm_i_inv h
    obtain ⟨n, hd0⟩ := hd0
    simp only [mm_swok, Bool.and_eq_true, decide_eq_true_eq] at hsw
    obtain ⟨⟨h1, h2⟩, h3⟩ := hsw
    rcases mm_tsw_at h h1 h2 with ⟨hr, h⟩ | ⟨o, hr, ho, h⟩
    · cases h
      exact fun ls H locs cells slots hL hR => lv_tableOut hx hb hd0 (by rcases hr with q | q; exact Or.inl q; exact Or.inr (by omega)) (mm_tg_eq (ht d (by simp [mm_offs]))) (k ls H locs cells slots hL hR)
    · cases h
      have hin : (x.toInt - lo).toNat < os.toList.length := (List.getElem?_eq_some_iff.mp ho).1
      exact fun ls H locs cells slots hL hR => lv_tableIn hx hb hd0 hr (by omega) (by rw [← Array.getElem?_toList]; exact ho) (mm_tg_eq (ht o (by simp only [mm_offs]; exact List.mem_cons_of_mem _ (List.mem_of_getElem? ho)))) (k ls H locs cells slots hL hR)
  | lookupswitch d ps =>
    obtain ⟨x, r, rfl, h⟩ := mm_i_inv h
    obtain ⟨n, hd0⟩ := hd0
    simp only [mm_swok, Bool.and_eq_true] at hsw
    obtain ⟨h1, h2⟩ := hsw
    obtain ⟨h, ho⟩ := mm_lsw_at h (fun q hq => of_decide_eq_true (List.all_eq_true.mp h1 q hq))
    cases h
    refine fun ls H locs cells slots hL hR => lv_lookup hx hb hd0 h2 rfl (mm_tg_eq (ht _ ?_)) (k ls H locs cells slots hL hR)
    simp only [mm_offs]
    rcases ho with ho | ⟨q, hq, ho⟩
    · rw [ho]; exact List.mem_cons_self
    · rw [← ho]; exact List.mem_cons_of_mem _ (List.mem_map.mpr ⟨q, hq, rfl⟩)
  | _ => cases hp
end SIM
