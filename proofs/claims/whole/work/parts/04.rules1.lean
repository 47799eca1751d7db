/-! ===== the rules: an instruction a row, over the abstract machine ===== -/
def zl : List (Nat × Value) → Nat → Option Value
  | [], _ => none
  | q :: r, i => match Nat.beq q.1 i with
    | true => some q.2
    | false => zl r i
theorem zl_mem : ∀ {lv : List (Nat × Value)} {i : Nat} {v : Value}, zl lv i = some v → (i, v) ∈ lv
  | [], _, _, h => by cases h
  | q :: r, i, v, h => by
    unfold zl at h
    split at h
    next hb =>
      have e := Nat.eq_of_beq_eq_true hb
      cases h
      rw [← e]
      exact List.mem_cons_self
    next => exact List.mem_cons_of_mem _ (zl_mem h)
theorem zl_has {E : zE} {ls : Array Slot} {nL : Nat} {lv : List (Nat × Value)} {i : Nat} {v : Value} (h : lv_has ls nL (lv.map (fun q => (q.1, zv E q.2)))) (hl : zl lv i = some v) : ls[i]? = some (.val (zv E v)) := h.2.2 (i, zv E v) (List.mem_map.mpr ⟨(i, v), zl_mem hl, rfl⟩)
def zrm (i : Nat) : List (Nat × Value) → List (Nat × Value)
  | [] => []
  | q :: r => match Nat.beq q.1 i || (Nat.beq (q.1 + 1) i && Nat.beq q.2.category 2) with
    | true => zrm i r
    | false => q :: zrm i r
def zst (lv : List (Nat × Value)) (i : Nat) (v : Value) : List (Nat × Value) := (i, v) :: zrm i lv
def zst2 (lv : List (Nat × Value)) (i : Nat) (v : Value) : List (Nat × Value) := (i, v) :: zrm i (zrm (i + 1) lv)
theorem zrm_mem {i : Nat} : ∀ {lv : List (Nat × Value)} {q : Nat × Value}, q ∈ zrm i lv → q ∈ lv ∧ q.1 ≠ i ∧ ¬ (q.1 + 1 = i ∧ q.2.category = 2)
  | [], _, h => by cases h
  | a :: r, q, h => by
    unfold zrm at h
    split at h
    next =>
      have h2 := zrm_mem h
      exact ⟨List.mem_cons_of_mem _ h2.1, h2.2⟩
    next hb =>
      rcases List.mem_cons.mp h with rfl | h
      · refine ⟨List.mem_cons_self, fun e => ?_, fun e => ?_⟩
        · simp [e] at hb
        · simp [e.1, e.2] at hb
      · have h2 := zrm_mem h
        exact ⟨List.mem_cons_of_mem _ h2.1, h2.2⟩
theorem zst_has {E : zE} {ls : Array Slot} {nL : Nat} {lv : List (Nat × Value)} {i : Nat} {v : Value} (h : lv_has ls nL ((i, zv E v) :: (lv.map (fun q => (q.1, zv E q.2))).filter (fun q => !(q.1 == i) && !(q.1 + 1 == i && q.2.category == 2)))) : lv_has ls nL ((zst lv i v).map (fun q => (q.1, zv E q.2))) := by
  refine ⟨h.1, h.2.1, fun q hq => h.2.2 q ?_⟩
  obtain ⟨q0, h0, rfl⟩ := List.mem_map.mp hq
  rcases List.mem_cons.mp h0 with rfl | h0
  · exact List.mem_cons_self
  · obtain ⟨a, b, d⟩ := zrm_mem h0
    refine List.mem_cons_of_mem _ (List.mem_filter.mpr ⟨List.mem_map.mpr ⟨q0, a, rfl⟩, ?_⟩)
    simp only [zv_cat]
    simp only [Bool.and_eq_true, Bool.not_eq_true', beq_eq_false_iff_ne, ne_eq, Bool.and_eq_false_iff]
    refine ⟨b, ?_⟩
    by_cases e : q0.1 + 1 = i
    · exact Or.inr (fun z => d ⟨e, z⟩)
    · exact Or.inl e
theorem zst2_has {E : zE} {ls : Array Slot} {nL : Nat} {lv : List (Nat × Value)} {i : Nat} {v : Value} (h : lv_has ls nL ((i, zv E v) :: (lv.map (fun q => (q.1, zv E q.2))).filter (fun q => !(q.1 == i) && (!(q.1 == i + 1) && !(q.1 + 1 == i && q.2.category == 2))))) : lv_has ls nL ((zst2 lv i v).map (fun q => (q.1, zv E q.2))) := by
  refine ⟨h.1, h.2.1, fun q hq => h.2.2 q ?_⟩
  obtain ⟨q0, h0, rfl⟩ := List.mem_map.mp hq
  rcases List.mem_cons.mp h0 with rfl | h0
  · exact List.mem_cons_self
  · obtain ⟨a, b, d⟩ := zrm_mem h0
    obtain ⟨a2, b2, d2⟩ := zrm_mem a
    refine List.mem_cons_of_mem _ (List.mem_filter.mpr ⟨List.mem_map.mpr ⟨q0, a2, rfl⟩, ?_⟩)
    simp only [zv_cat]
    simp only [Bool.and_eq_true, Bool.not_eq_true', beq_eq_false_iff_ne, ne_eq, Bool.and_eq_false_iff]
    refine ⟨b, b2, ?_⟩
    by_cases e : q0.1 + 1 = i
    · exact Or.inr (fun z => d ⟨e, z⟩)
    · exact Or.inl e
section ZR1
variable {X : zX} {M : zMt} {pc : Nat} {lv lv' : List (Nat × Value)} {st : List Value} {S : zS}
theorem z_iadd {x y : Int32} (hd : decode M.2.1 pc = .ok (.iadd, 1))  (k : Z X M (pc + 1) lv (.int (x + y) :: st) S) : Z X M pc lv (.int y :: .int x :: st) S := by
  obtain ⟨p, l, e, R, s, m, args, below, meth, c, E, n0, z0, Q⟩ := X
  intro ok cap H locs ls hP hS hl
  exact lv_iadd ok.1 ok.2.1 hd (k ok cap H locs ls hP hS hl)
theorem z_isub {x y : Int32} (hd : decode M.2.1 pc = .ok (.isub, 1))  (k : Z X M (pc + 1) lv (.int (x - y) :: st) S) : Z X M pc lv (.int y :: .int x :: st) S := by
  obtain ⟨p, l, e, R, s, m, args, below, meth, c, E, n0, z0, Q⟩ := X
  intro ok cap H locs ls hP hS hl
  exact lv_isub ok.1 ok.2.1 hd (k ok cap H locs ls hP hS hl)
theorem z_imul {x y : Int32} (hd : decode M.2.1 pc = .ok (.imul, 1))  (k : Z X M (pc + 1) lv (.int (x * y) :: st) S) : Z X M pc lv (.int y :: .int x :: st) S := by
  obtain ⟨p, l, e, R, s, m, args, below, meth, c, E, n0, z0, Q⟩ := X
  intro ok cap H locs ls hP hS hl
  exact lv_imul ok.1 ok.2.1 hd (k ok cap H locs ls hP hS hl)
theorem z_iand {x y : Int32} (hd : decode M.2.1 pc = .ok (.iand, 1))  (k : Z X M (pc + 1) lv (.int (x &&& y) :: st) S) : Z X M pc lv (.int y :: .int x :: st) S := by
  obtain ⟨p, l, e, R, s, m, args, below, meth, c, E, n0, z0, Q⟩ := X
  intro ok cap H locs ls hP hS hl
  exact lv_iand ok.1 ok.2.1 hd (k ok cap H locs ls hP hS hl)
theorem z_ior {x y : Int32} (hd : decode M.2.1 pc = .ok (.ior, 1))  (k : Z X M (pc + 1) lv (.int (x ||| y) :: st) S) : Z X M pc lv (.int y :: .int x :: st) S := by
  obtain ⟨p, l, e, R, s, m, args, below, meth, c, E, n0, z0, Q⟩ := X
  intro ok cap H locs ls hP hS hl
  exact lv_ior ok.1 ok.2.1 hd (k ok cap H locs ls hP hS hl)
theorem z_ixor {x y : Int32} (hd : decode M.2.1 pc = .ok (.ixor, 1))  (k : Z X M (pc + 1) lv (.int (x ^^^ y) :: st) S) : Z X M pc lv (.int y :: .int x :: st) S := by
  obtain ⟨p, l, e, R, s, m, args, below, meth, c, E, n0, z0, Q⟩ := X
  intro ok cap H locs ls hP hS hl
  exact lv_ixor ok.1 ok.2.1 hd (k ok cap H locs ls hP hS hl)
theorem z_ishl {x y : Int32} (hd : decode M.2.1 pc = .ok (.ishl, 1))  (k : Z X M (pc + 1) lv (.int (x <<< (y &&& 31)) :: st) S) : Z X M pc lv (.int y :: .int x :: st) S := by
  obtain ⟨p, l, e, R, s, m, args, below, meth, c, E, n0, z0, Q⟩ := X
  intro ok cap H locs ls hP hS hl
  exact lv_ishl ok.1 ok.2.1 hd (k ok cap H locs ls hP hS hl)
theorem z_ishr {x y : Int32} (hd : decode M.2.1 pc = .ok (.ishr, 1))  (k : Z X M (pc + 1) lv (.int (x >>> (y &&& 31)) :: st) S) : Z X M pc lv (.int y :: .int x :: st) S := by
  obtain ⟨p, l, e, R, s, m, args, below, meth, c, E, n0, z0, Q⟩ := X
  intro ok cap H locs ls hP hS hl
  exact lv_ishr ok.1 ok.2.1 hd (k ok cap H locs ls hP hS hl)
theorem z_iushr {x y : Int32} (hd : decode M.2.1 pc = .ok (.iushr, 1))  (k : Z X M (pc + 1) lv (.int ((x.toUInt32 >>> (y.toUInt32 &&& Int32.toUInt32 31)).toInt32) :: st) S) : Z X M pc lv (.int y :: .int x :: st) S := by
  obtain ⟨p, l, e, R, s, m, args, below, meth, c, E, n0, z0, Q⟩ := X
  intro ok cap H locs ls hP hS hl
  exact lv_iushr ok.1 ok.2.1 hd rfl (k ok cap H locs ls hP hS hl)
theorem z_ineg {x : Int32} (hd : decode M.2.1 pc = .ok (.ineg, 1))  (k : Z X M (pc + 1) lv (.int (-x) :: st) S) : Z X M pc lv (.int x :: st) S := by
  obtain ⟨p, l, e, R, s, m, args, below, meth, c, E, n0, z0, Q⟩ := X
  intro ok cap H locs ls hP hS hl
  exact lv_ineg ok.1 ok.2.1 hd (k ok cap H locs ls hP hS hl)
theorem z_ladd {x y : Int64} (hd : decode M.2.1 pc = .ok (.ladd, 1))  (k : Z X M (pc + 1) lv (.long (x + y) :: st) S) : Z X M pc lv (.long y :: .long x :: st) S := by
  obtain ⟨p, l, e, R, s, m, args, below, meth, c, E, n0, z0, Q⟩ := X
  intro ok cap H locs ls hP hS hl
  exact lv_ladd ok.1 ok.2.1 hd (k ok cap H locs ls hP hS hl)
theorem z_land {x y : Int64} (hd : decode M.2.1 pc = .ok (.land, 1))  (k : Z X M (pc + 1) lv (.long (x &&& y) :: st) S) : Z X M pc lv (.long y :: .long x :: st) S := by
  obtain ⟨p, l, e, R, s, m, args, below, meth, c, E, n0, z0, Q⟩ := X
  intro ok cap H locs ls hP hS hl
  exact lv_land ok.1 ok.2.1 hd (k ok cap H locs ls hP hS hl)
theorem z_lor {x y : Int64} (hd : decode M.2.1 pc = .ok (.lor, 1))  (k : Z X M (pc + 1) lv (.long (x ||| y) :: st) S) : Z X M pc lv (.long y :: .long x :: st) S := by
  obtain ⟨p, l, e, R, s, m, args, below, meth, c, E, n0, z0, Q⟩ := X
  intro ok cap H locs ls hP hS hl
  exact lv_lor ok.1 ok.2.1 hd (k ok cap H locs ls hP hS hl)
theorem z_lshl {x : Int64} {y : Int32} (hd : decode M.2.1 pc = .ok (.lshl, 1))  (k : Z X M (pc + 1) lv (.long (x <<< (y.toInt64 &&& 63)) :: st) S) : Z X M pc lv (.int y :: .long x :: st) S := by
  obtain ⟨p, l, e, R, s, m, args, below, meth, c, E, n0, z0, Q⟩ := X
  intro ok cap H locs ls hP hS hl
  exact lv_lshl ok.1 ok.2.1 hd rfl (k ok cap H locs ls hP hS hl)
theorem z_lshr {x : Int64} {y : Int32} (hd : decode M.2.1 pc = .ok (.lshr, 1))  (k : Z X M (pc + 1) lv (.long (x >>> (y.toInt64 &&& 63)) :: st) S) : Z X M pc lv (.int y :: .long x :: st) S := by
  obtain ⟨p, l, e, R, s, m, args, below, meth, c, E, n0, z0, Q⟩ := X
  intro ok cap H locs ls hP hS hl
  exact lv_lshr ok.1 ok.2.1 hd rfl (k ok cap H locs ls hP hS hl)
theorem z_lcmp {x y : Int64} (hd : decode M.2.1 pc = .ok (.lcmp, 1))  (k : Z X M (pc + 1) lv (.int (lg_cmp x y) :: st) S) : Z X M pc lv (.long y :: .long x :: st) S := by
  obtain ⟨p, l, e, R, s, m, args, below, meth, c, E, n0, z0, Q⟩ := X
  intro ok cap H locs ls hP hS hl
  exact W.lcmp ok.1 ok.2.1 hd (k ok cap H locs ls hP hS hl)
theorem z_i2l {x : Int32} (hd : decode M.2.1 pc = .ok (.i2l, 1))  (k : Z X M (pc + 1) lv (.long x.toInt64 :: st) S) : Z X M pc lv (.int x :: st) S := by
  obtain ⟨p, l, e, R, s, m, args, below, meth, c, E, n0, z0, Q⟩ := X
  intro ok cap H locs ls hP hS hl
  exact lv_i2l ok.1 ok.2.1 hd rfl (k ok cap H locs ls hP hS hl)
theorem z_l2i {x : Int64} (hd : decode M.2.1 pc = .ok (.l2i, 1))  (k : Z X M (pc + 1) lv (.int x.toInt32 :: st) S) : Z X M pc lv (.long x :: st) S := by
  obtain ⟨p, l, e, R, s, m, args, below, meth, c, E, n0, z0, Q⟩ := X
  intro ok cap H locs ls hP hS hl
  exact lv_l2i ok.1 ok.2.1 hd rfl (k ok cap H locs ls hP hS hl)
theorem z_i2b {x : Int32} (hd : decode M.2.1 pc = .ok (.i2b, 1))  (k : Z X M (pc + 1) lv (.int x.toInt8.toInt32 :: st) S) : Z X M pc lv (.int x :: st) S := by
  obtain ⟨p, l, e, R, s, m, args, below, meth, c, E, n0, z0, Q⟩ := X
  intro ok cap H locs ls hP hS hl
  exact lv_i2b ok.1 ok.2.1 hd rfl (k ok cap H locs ls hP hS hl)
theorem z_i2s {x : Int32} (hd : decode M.2.1 pc = .ok (.i2s, 1))  (k : Z X M (pc + 1) lv (.int x.toInt16.toInt32 :: st) S) : Z X M pc lv (.int x :: st) S := by
  obtain ⟨p, l, e, R, s, m, args, below, meth, c, E, n0, z0, Q⟩ := X
  intro ok cap H locs ls hP hS hl
  exact lv_i2s ok.1 ok.2.1 hd rfl (k ok cap H locs ls hP hS hl)
theorem z_i2c {x : Int32} (hd : decode M.2.1 pc = .ok (.i2c, 1))  (k : Z X M (pc + 1) lv (.int (x.toUInt32 % 65536).toInt32 :: st) S) : Z X M pc lv (.int x :: st) S := by
  obtain ⟨p, l, e, R, s, m, args, below, meth, c, E, n0, z0, Q⟩ := X
  intro ok cap H locs ls hP hS hl
  exact lv_i2c ok.1 ok.2.1 hd rfl (k ok cap H locs ls hP hS hl)
theorem z_iconst {n : Int} {v : Int32} (hd : decode M.2.1 pc = .ok (.iconst n, 1)) (hv : Int32.ofInt n = v) (k : Z X M (pc + 1) lv (.int v :: st) S) : Z X M pc lv (st) S := by
  obtain ⟨p, l, e, R, s, m, args, below, meth, c, E, n0, z0, Q⟩ := X
  intro ok cap H locs ls hP hS hl
  exact lv_iconst ok.1 ok.2.1 hd hv (k ok cap H locs ls hP hS hl)
theorem z_bipush {n : Int} {v : Int32} (hd : decode M.2.1 pc = .ok (.bipush n, 2)) (hv : (Int8.ofInt n).toInt32 = v) (k : Z X M (pc + 2) lv (.int v :: st) S) : Z X M pc lv (st) S := by
  obtain ⟨p, l, e, R, s, m, args, below, meth, c, E, n0, z0, Q⟩ := X
  intro ok cap H locs ls hP hS hl
  exact lv_bipush ok.1 ok.2.1 hd hv (k ok cap H locs ls hP hS hl)
theorem z_sipush {n : Int} {v : Int32} (hd : decode M.2.1 pc = .ok (.sipush n, 3)) (hv : (Int16.ofInt n).toInt32 = v) (k : Z X M (pc + 3) lv (.int v :: st) S) : Z X M pc lv (st) S := by
  obtain ⟨p, l, e, R, s, m, args, below, meth, c, E, n0, z0, Q⟩ := X
  intro ok cap H locs ls hP hS hl
  exact lv_sipush ok.1 ok.2.1 hd hv (k ok cap H locs ls hP hS hl)
theorem z_lconst {n : Fin 2} {v : Int64} (hd : decode M.2.1 pc = .ok (.lconst n, 1)) (hv : Int64.ofNat (n : Nat) = v) (k : Z X M (pc + 1) lv (.long v :: st) S) : Z X M pc lv (st) S := by
  obtain ⟨p, l, e, R, s, m, args, below, meth, c, E, n0, z0, Q⟩ := X
  intro ok cap H locs ls hP hS hl
  exact lv_lconst ok.1 ok.2.1 hd hv (k ok cap H locs ls hP hS hl)
theorem z_null  (hd : decode M.2.1 pc = .ok (.aconst_null, 1))  (k : Z X M (pc + 1) lv (.null :: st) S) : Z X M pc lv (st) S := by
  obtain ⟨p, l, e, R, s, m, args, below, meth, c, E, n0, z0, Q⟩ := X
  intro ok cap H locs ls hP hS hl
  exact lv_null ok.1 ok.2.1 hd (k ok cap H locs ls hP hS hl)
theorem z_dup {v : Value} (hd : decode M.2.1 pc = .ok (.dup, 1)) (hv : v.category = 1) (k : Z X M (pc + 1) lv (v :: v :: st) S) : Z X M pc lv (v :: st) S := by
  obtain ⟨p, l, e, R, s, m, args, below, meth, c, E, n0, z0, Q⟩ := X
  intro ok cap H locs ls hP hS hl
  exact lv_dup ok.1 ok.2.1 hd (by rw [zv_cat]; exact hv) (k ok cap H locs ls hP hS hl)
theorem z_dup2 {v w : Value} (hd : decode M.2.1 pc = .ok (.dup2, 1)) (hv : v.category = 1) (hw : w.category = 1) (k : Z X M (pc + 1) lv (v :: w :: v :: w :: st) S) : Z X M pc lv (v :: w :: st) S := by
  obtain ⟨p, l, e, R, s, m, args, below, meth, c, E, n0, z0, Q⟩ := X
  intro ok cap H locs ls hP hS hl
  exact lv_dup2_11 ok.1 ok.2.1 hd (by rw [zv_cat]; exact hv) (by rw [zv_cat]; exact hw) (k ok cap H locs ls hP hS hl)
theorem z_pop {v : Value} (hd : decode M.2.1 pc = .ok (.pop, 1)) (hv : v.category = 1) (k : Z X M (pc + 1) lv (st) S) : Z X M pc lv (v :: st) S := by
  obtain ⟨p, l, e, R, s, m, args, below, meth, c, E, n0, z0, Q⟩ := X
  intro ok cap H locs ls hP hS hl
  exact lv_pop ok.1 ok.2.1 hd (by rw [zv_cat]; exact hv) (k ok cap H locs ls hP hS hl)
theorem z_iload_n {i : Fin 4} {x : Int32} (hd : decode M.2.1 pc = .ok (.iload_n i, 1)) (h0 : zl lv i = some (.int x)) (k : Z X M (pc + 1) lv (.int x :: st) S) : Z X M pc lv (st) S := by
  obtain ⟨p, l, e, R, s, m, args, below, meth, c, E, n0, z0, Q⟩ := X
  intro ok cap H locs ls hP hS hl
  exact lv_iload_n ok.1 ok.2.1 hd rfl (zl_has hl h0) (k ok cap H locs ls hP hS hl)
theorem z_iload {i : Nat} {x : Int32} (hd : decode M.2.1 pc = .ok (.iload i, 2)) (h0 : zl lv i = some (.int x)) (k : Z X M (pc + 2) lv (.int x :: st) S) : Z X M pc lv (st) S := by
  obtain ⟨p, l, e, R, s, m, args, below, meth, c, E, n0, z0, Q⟩ := X
  intro ok cap H locs ls hP hS hl
  exact lv_iload ok.1 ok.2.1 hd (zl_has hl h0) (k ok cap H locs ls hP hS hl)
theorem z_lload_n {i : Fin 4} {x : Int64} (hd : decode M.2.1 pc = .ok (.lload_n i, 1)) (h0 : zl lv i = some (.long x)) (k : Z X M (pc + 1) lv (.long x :: st) S) : Z X M pc lv (st) S := by
  obtain ⟨p, l, e, R, s, m, args, below, meth, c, E, n0, z0, Q⟩ := X
  intro ok cap H locs ls hP hS hl
  exact lv_lload_n ok.1 ok.2.1 hd rfl (zl_has hl h0) (k ok cap H locs ls hP hS hl)
theorem z_lload {i : Nat} {x : Int64} (hd : decode M.2.1 pc = .ok (.lload i, 2)) (h0 : zl lv i = some (.long x)) (k : Z X M (pc + 2) lv (.long x :: st) S) : Z X M pc lv (st) S := by
  obtain ⟨p, l, e, R, s, m, args, below, meth, c, E, n0, z0, Q⟩ := X
  intro ok cap H locs ls hP hS hl
  exact lv_lload ok.1 ok.2.1 hd (zl_has hl h0) (k ok cap H locs ls hP hS hl)
theorem z_aload_n {i : Fin 4} {x : Nat} (hd : decode M.2.1 pc = .ok (.aload_n i, 1)) (h0 : zl lv i = some (.ref x)) (k : Z X M (pc + 1) lv (.ref x :: st) S) : Z X M pc lv (st) S := by
  obtain ⟨p, l, e, R, s, m, args, below, meth, c, E, n0, z0, Q⟩ := X
  intro ok cap H locs ls hP hS hl
  exact lv_aload_n ok.1 ok.2.1 hd rfl (zl_has hl h0) (k ok cap H locs ls hP hS hl)
theorem z_aload {i : Nat} {x : Nat} (hd : decode M.2.1 pc = .ok (.aload i, 2)) (h0 : zl lv i = some (.ref x)) (k : Z X M (pc + 2) lv (.ref x :: st) S) : Z X M pc lv (st) S := by
  obtain ⟨p, l, e, R, s, m, args, below, meth, c, E, n0, z0, Q⟩ := X
  intro ok cap H locs ls hP hS hl
  exact lv_aload ok.1 ok.2.1 hd (zl_has hl h0) (k ok cap H locs ls hP hS hl)
theorem z_aload_nN {i : Fin 4} (hd : decode M.2.1 pc = .ok (.aload_n i, 1)) (h0 : zl lv i = some .null) (k : Z X M (pc + 1) lv (.null :: st) S) : Z X M pc lv (st) S := by
  obtain ⟨p, l, e, R, s, m, args, below, meth, c, E, n0, z0, Q⟩ := X
  intro ok cap H locs ls hP hS hl
  exact lv_aload_nN ok.1 ok.2.1 hd rfl (zl_has hl h0) (k ok cap H locs ls hP hS hl)
theorem z_aloadN {i : Nat} (hd : decode M.2.1 pc = .ok (.aload i, 2)) (h0 : zl lv i = some .null) (k : Z X M (pc + 2) lv (.null :: st) S) : Z X M pc lv (st) S := by
  obtain ⟨p, l, e, R, s, m, args, below, meth, c, E, n0, z0, Q⟩ := X
  intro ok cap H locs ls hP hS hl
  exact lv_aloadN ok.1 ok.2.1 hd (zl_has hl h0) (k ok cap H locs ls hP hS hl)
theorem z_istore_n {i : Fin 4} {x : Int32} (hd : decode M.2.1 pc = .ok (.istore_n i, 1)) (hn : (i : Nat) < M.2.2.1) (h0 : zst lv i (.int x) = lv') (k : Z X M (pc + 1) lv' st S) : Z X M pc lv (.int x :: st) S := by
  subst h0
  obtain ⟨p, l, e, R, s, m, args, below, meth, c, E, n0, z0, Q⟩ := X
  intro ok cap H locs ls hP hS hl
  exact lv_istore_n ok.1 ok.2.1 hd rfl hl hn rfl (fun ls2 h2 => k ok cap H locs ls2 hP hS (zst_has h2))
theorem z_istore {i : Nat} {x : Int32} (hd : decode M.2.1 pc = .ok (.istore i, 2)) (hn : (i : Nat) < M.2.2.1) (h0 : zst lv i (.int x) = lv') (k : Z X M (pc + 2) lv' st S) : Z X M pc lv (.int x :: st) S := by
  subst h0
  obtain ⟨p, l, e, R, s, m, args, below, meth, c, E, n0, z0, Q⟩ := X
  intro ok cap H locs ls hP hS hl
  exact lv_istore ok.1 ok.2.1 hd hl hn rfl (fun ls2 h2 => k ok cap H locs ls2 hP hS (zst_has h2))
theorem z_astore_n {i : Fin 4} {x : Nat} (hd : decode M.2.1 pc = .ok (.astore_n i, 1)) (hn : (i : Nat) < M.2.2.1) (h0 : zst lv i (.ref x) = lv') (k : Z X M (pc + 1) lv' st S) : Z X M pc lv (.ref x :: st) S := by
  subst h0
  obtain ⟨p, l, e, R, s, m, args, below, meth, c, E, n0, z0, Q⟩ := X
  intro ok cap H locs ls hP hS hl
  exact lv_astore_n ok.1 ok.2.1 hd rfl hl hn rfl (fun ls2 h2 => k ok cap H locs ls2 hP hS (zst_has h2))
theorem z_astore {i : Nat} {x : Nat} (hd : decode M.2.1 pc = .ok (.astore i, 2)) (hn : (i : Nat) < M.2.2.1) (h0 : zst lv i (.ref x) = lv') (k : Z X M (pc + 2) lv' st S) : Z X M pc lv (.ref x :: st) S := by
  subst h0
  obtain ⟨p, l, e, R, s, m, args, below, meth, c, E, n0, z0, Q⟩ := X
  intro ok cap H locs ls hP hS hl
  exact lv_astore ok.1 ok.2.1 hd hl hn rfl (fun ls2 h2 => k ok cap H locs ls2 hP hS (zst_has h2))
theorem z_astore_nN {i : Fin 4} (hd : decode M.2.1 pc = .ok (.astore_n i, 1)) (hn : (i : Nat) < M.2.2.1) (h0 : zst lv i (.null) = lv') (k : Z X M (pc + 1) lv' st S) : Z X M pc lv (.null :: st) S := by
  subst h0
  obtain ⟨p, l, e, R, s, m, args, below, meth, c, E, n0, z0, Q⟩ := X
  intro ok cap H locs ls hP hS hl
  exact lv_astore_nN ok.1 ok.2.1 hd rfl hl hn rfl (fun ls2 h2 => k ok cap H locs ls2 hP hS (zst_has h2))
theorem z_astoreN {i : Nat} (hd : decode M.2.1 pc = .ok (.astore i, 2)) (hn : (i : Nat) < M.2.2.1) (h0 : zst lv i (.null) = lv') (k : Z X M (pc + 2) lv' st S) : Z X M pc lv (.null :: st) S := by
  subst h0
  obtain ⟨p, l, e, R, s, m, args, below, meth, c, E, n0, z0, Q⟩ := X
  intro ok cap H locs ls hP hS hl
  exact lv_astoreN ok.1 ok.2.1 hd hl hn rfl (fun ls2 h2 => k ok cap H locs ls2 hP hS (zst_has h2))
theorem z_lstore_n {i : Fin 4} {x : Int64} (hd : decode M.2.1 pc = .ok (.lstore_n i, 1)) (hn : (i : Nat) + 1 < M.2.2.1) (h0 : zst2 lv i (.long x) = lv') (k : Z X M (pc + 1) lv' st S) : Z X M pc lv (.long x :: st) S := by
  subst h0
  obtain ⟨p, l, e, R, s, m, args, below, meth, c, E, n0, z0, Q⟩ := X
  intro ok cap H locs ls hP hS hl
  exact lv_lstore_n ok.1 ok.2.1 hd rfl hl hn rfl (fun ls2 h2 => k ok cap H locs ls2 hP hS (zst2_has h2))
theorem z_lstore {i : Nat} {x : Int64} (hd : decode M.2.1 pc = .ok (.lstore i, 2)) (hn : (i : Nat) + 1 < M.2.2.1) (h0 : zst2 lv i (.long x) = lv') (k : Z X M (pc + 2) lv' st S) : Z X M pc lv (.long x :: st) S := by
  subst h0
  obtain ⟨p, l, e, R, s, m, args, below, meth, c, E, n0, z0, Q⟩ := X
  intro ok cap H locs ls hP hS hl
  exact lv_lstore ok.1 ok.2.1 hd hl hn rfl (fun ls2 h2 => k ok cap H locs ls2 hP hS (zst2_has h2))
theorem z_iinc {i : Nat} {n : Int} {x v : Int32} (hd : decode M.2.1 pc = .ok (.iinc i n, 3)) (h1 : zl lv i = some (.int x)) (hv : x + Int32.ofInt n = v) (hn : i < M.2.2.1) (h0 : zst lv i (.int v) = lv') (k : Z X M (pc + 3) lv' st S) : Z X M pc lv st S := by
  subst h0
  obtain ⟨p, l, e, R, s, m, args, below, meth, c, E, n0, z0, Q⟩ := X
  intro ok cap H locs ls hP hS hl
  have h2 : ((i, zv E (.int x)) : Nat × Value) ∈ lv.map (fun q => (q.1, zv E q.2)) := List.mem_map.mpr ⟨(i, .int x), zl_mem h1, rfl⟩
  obtain ⟨j, hj⟩ := List.getElem?_of_mem h2
  exact lv_iinc ok.1 ok.2.1 hd hl (k := j) hj hv hn rfl (fun ls2 h2 => k ok cap H locs ls2 hP hS (zst_has h2))
theorem z_goto {off : Int} {t : Nat} (hd : decode M.2.1 pc = .ok (.goto off, 3)) (ht : (pc : Int) + off = (t : Int)) (k : Z X M t lv st S) : Z X M pc lv st S := by
  obtain ⟨p, l, e, R, s, m, args, below, meth, c, E, n0, z0, Q⟩ := X
  intro ok cap H locs ls hP hS hl
  exact lv_goto ok.1 ok.2.1 hd ht (k ok cap H locs ls hP hS hl)
theorem z_if_eq {x : Int32} {off : Int} {t : Nat} (hd : decode M.2.1 pc = .ok (.ifCond .eq off, 3)) (ht : (pc : Int) + off = (t : Int)) (kt : x = 0 → Z X M t lv st S) (kf : ¬ x = 0 → Z X M (pc + 3) lv st S) : Z X M pc lv (.int x :: st) S := by
  obtain ⟨p, l, e, R, s, m, args, below, meth, c, E, n0, z0, Q⟩ := X
  intro ok cap H locs ls hP hS hl
  exact lv_if_eq ok.1 ok.2.1 hd ht (fun h => kt h ok cap H locs ls hP hS hl) (fun h => kf h ok cap H locs ls hP hS hl)
theorem z_icmp_eq {x y : Int32} {off : Int} {t : Nat} (hd : decode M.2.1 pc = .ok (.if_icmp .eq off, 3)) (ht : (pc : Int) + off = (t : Int)) (kt : x = y → Z X M t lv st S) (kf : ¬ x = y → Z X M (pc + 3) lv st S) : Z X M pc lv (.int y :: .int x :: st) S := by
  obtain ⟨p, l, e, R, s, m, args, below, meth, c, E, n0, z0, Q⟩ := X
  intro ok cap H locs ls hP hS hl
  exact lv_icmp_eq ok.1 ok.2.1 hd ht (fun h => kt h ok cap H locs ls hP hS hl) (fun h => kf h ok cap H locs ls hP hS hl)
theorem z_if_ne {x : Int32} {off : Int} {t : Nat} (hd : decode M.2.1 pc = .ok (.ifCond .ne off, 3)) (ht : (pc : Int) + off = (t : Int)) (kt : ¬ x = 0 → Z X M t lv st S) (kf : x = 0 → Z X M (pc + 3) lv st S) : Z X M pc lv (.int x :: st) S := by
  obtain ⟨p, l, e, R, s, m, args, below, meth, c, E, n0, z0, Q⟩ := X
  intro ok cap H locs ls hP hS hl
  exact lv_if_ne ok.1 ok.2.1 hd ht (fun h => kt h ok cap H locs ls hP hS hl) (fun h => kf h ok cap H locs ls hP hS hl)
theorem z_icmp_ne {x y : Int32} {off : Int} {t : Nat} (hd : decode M.2.1 pc = .ok (.if_icmp .ne off, 3)) (ht : (pc : Int) + off = (t : Int)) (kt : ¬ x = y → Z X M t lv st S) (kf : x = y → Z X M (pc + 3) lv st S) : Z X M pc lv (.int y :: .int x :: st) S := by
  obtain ⟨p, l, e, R, s, m, args, below, meth, c, E, n0, z0, Q⟩ := X
  intro ok cap H locs ls hP hS hl
  exact lv_icmp_ne ok.1 ok.2.1 hd ht (fun h => kt h ok cap H locs ls hP hS hl) (fun h => kf h ok cap H locs ls hP hS hl)
theorem z_if_lt {x : Int32} {off : Int} {t : Nat} (hd : decode M.2.1 pc = .ok (.ifCond .lt off, 3)) (ht : (pc : Int) + off = (t : Int)) (kt : x < 0 → Z X M t lv st S) (kf : ¬ x < 0 → Z X M (pc + 3) lv st S) : Z X M pc lv (.int x :: st) S := by
  obtain ⟨p, l, e, R, s, m, args, below, meth, c, E, n0, z0, Q⟩ := X
  intro ok cap H locs ls hP hS hl
  exact lv_if_lt ok.1 ok.2.1 hd ht (fun h => kt h ok cap H locs ls hP hS hl) (fun h => kf h ok cap H locs ls hP hS hl)
theorem z_icmp_lt {x y : Int32} {off : Int} {t : Nat} (hd : decode M.2.1 pc = .ok (.if_icmp .lt off, 3)) (ht : (pc : Int) + off = (t : Int)) (kt : x < y → Z X M t lv st S) (kf : ¬ x < y → Z X M (pc + 3) lv st S) : Z X M pc lv (.int y :: .int x :: st) S := by
  obtain ⟨p, l, e, R, s, m, args, below, meth, c, E, n0, z0, Q⟩ := X
  intro ok cap H locs ls hP hS hl
  exact lv_icmp_lt ok.1 ok.2.1 hd ht (fun h => kt h ok cap H locs ls hP hS hl) (fun h => kf h ok cap H locs ls hP hS hl)
theorem z_if_ge {x : Int32} {off : Int} {t : Nat} (hd : decode M.2.1 pc = .ok (.ifCond .ge off, 3)) (ht : (pc : Int) + off = (t : Int)) (kt : 0 ≤ x → Z X M t lv st S) (kf : ¬ 0 ≤ x → Z X M (pc + 3) lv st S) : Z X M pc lv (.int x :: st) S := by
  obtain ⟨p, l, e, R, s, m, args, below, meth, c, E, n0, z0, Q⟩ := X
  intro ok cap H locs ls hP hS hl
  exact lv_if_ge ok.1 ok.2.1 hd ht (fun h => kt h ok cap H locs ls hP hS hl) (fun h => kf h ok cap H locs ls hP hS hl)
theorem z_icmp_ge {x y : Int32} {off : Int} {t : Nat} (hd : decode M.2.1 pc = .ok (.if_icmp .ge off, 3)) (ht : (pc : Int) + off = (t : Int)) (kt : y ≤ x → Z X M t lv st S) (kf : ¬ y ≤ x → Z X M (pc + 3) lv st S) : Z X M pc lv (.int y :: .int x :: st) S := by
  obtain ⟨p, l, e, R, s, m, args, below, meth, c, E, n0, z0, Q⟩ := X
  intro ok cap H locs ls hP hS hl
  exact lv_icmp_ge ok.1 ok.2.1 hd ht (fun h => kt h ok cap H locs ls hP hS hl) (fun h => kf h ok cap H locs ls hP hS hl)
theorem z_if_gt {x : Int32} {off : Int} {t : Nat} (hd : decode M.2.1 pc = .ok (.ifCond .gt off, 3)) (ht : (pc : Int) + off = (t : Int)) (kt : 0 < x → Z X M t lv st S) (kf : ¬ 0 < x → Z X M (pc + 3) lv st S) : Z X M pc lv (.int x :: st) S := by
  obtain ⟨p, l, e, R, s, m, args, below, meth, c, E, n0, z0, Q⟩ := X
  intro ok cap H locs ls hP hS hl
  exact lv_if_gt ok.1 ok.2.1 hd ht (fun h => kt h ok cap H locs ls hP hS hl) (fun h => kf h ok cap H locs ls hP hS hl)
theorem z_icmp_gt {x y : Int32} {off : Int} {t : Nat} (hd : decode M.2.1 pc = .ok (.if_icmp .gt off, 3)) (ht : (pc : Int) + off = (t : Int)) (kt : y < x → Z X M t lv st S) (kf : ¬ y < x → Z X M (pc + 3) lv st S) : Z X M pc lv (.int y :: .int x :: st) S := by
  obtain ⟨p, l, e, R, s, m, args, below, meth, c, E, n0, z0, Q⟩ := X
  intro ok cap H locs ls hP hS hl
  exact lv_icmp_gt ok.1 ok.2.1 hd ht (fun h => kt h ok cap H locs ls hP hS hl) (fun h => kf h ok cap H locs ls hP hS hl)
theorem z_if_le {x : Int32} {off : Int} {t : Nat} (hd : decode M.2.1 pc = .ok (.ifCond .le off, 3)) (ht : (pc : Int) + off = (t : Int)) (kt : x ≤ 0 → Z X M t lv st S) (kf : ¬ x ≤ 0 → Z X M (pc + 3) lv st S) : Z X M pc lv (.int x :: st) S := by
  obtain ⟨p, l, e, R, s, m, args, below, meth, c, E, n0, z0, Q⟩ := X
  intro ok cap H locs ls hP hS hl
  exact lv_if_le ok.1 ok.2.1 hd ht (fun h => kt h ok cap H locs ls hP hS hl) (fun h => kf h ok cap H locs ls hP hS hl)
theorem z_icmp_le {x y : Int32} {off : Int} {t : Nat} (hd : decode M.2.1 pc = .ok (.if_icmp .le off, 3)) (ht : (pc : Int) + off = (t : Int)) (kt : x ≤ y → Z X M t lv st S) (kf : ¬ x ≤ y → Z X M (pc + 3) lv st S) : Z X M pc lv (.int y :: .int x :: st) S := by
  obtain ⟨p, l, e, R, s, m, args, below, meth, c, E, n0, z0, Q⟩ := X
  intro ok cap H locs ls hP hS hl
  exact lv_icmp_le ok.1 ok.2.1 hd ht (fun h => kt h ok cap H locs ls hP hS hl) (fun h => kf h ok cap H locs ls hP hS hl)
theorem z_ifnull {x : Nat} {off : Int} (hd : decode M.2.1 pc = .ok (.ifnull off, 3)) (k : Z X M (pc + 3) lv st S) : Z X M pc lv (.ref x :: st) S := by
  obtain ⟨p, l, e, R, s, m, args, below, meth, c, E, n0, z0, Q⟩ := X
  intro ok cap H locs ls hP hS hl
  exact lv_ifnull ok.1 ok.2.1 hd (k ok cap H locs ls hP hS hl)
theorem z_ifnullN {off : Int} {t : Nat} (hd : decode M.2.1 pc = .ok (.ifnull off, 3)) (ht : (pc : Int) + off = (t : Int)) (k : Z X M t lv st S) : Z X M pc lv (.null :: st) S := by
  obtain ⟨p, l, e, R, s, m, args, below, meth, c, E, n0, z0, Q⟩ := X
  intro ok cap H locs ls hP hS hl
  exact lv_ifnullN ok.1 ok.2.1 hd ht (k ok cap H locs ls hP hS hl)
theorem z_ifnonnull {x : Nat} {off : Int} {t : Nat} (hd : decode M.2.1 pc = .ok (.ifnonnull off, 3)) (ht : (pc : Int) + off = (t : Int)) (k : Z X M t lv st S) : Z X M pc lv (.ref x :: st) S := by
  obtain ⟨p, l, e, R, s, m, args, below, meth, c, E, n0, z0, Q⟩ := X
  intro ok cap H locs ls hP hS hl
  exact lv_ifnonnull ok.1 ok.2.1 hd ht (k ok cap H locs ls hP hS hl)
theorem z_ifnonnullN {off : Int} (hd : decode M.2.1 pc = .ok (.ifnonnull off, 3)) (k : Z X M (pc + 3) lv st S) : Z X M pc lv (.null :: st) S := by
  obtain ⟨p, l, e, R, s, m, args, below, meth, c, E, n0, z0, Q⟩ := X
  intro ok cap H locs ls hP hS hl
  exact lv_ifnonnullN ok.1 ok.2.1 hd (k ok cap H locs ls hP hS hl)
theorem z_ldc {idx : Nat} {v : Int32} (hd : decode M.2.1 pc = .ok (.ldc idx, 2)) (hw : Cond.constant M.1.cls idx v ∈ zWs) (k : Z X M (pc + 2) lv (.int v :: st) S) : Z X M pc lv st S := by
  obtain ⟨p, l, e, R, s, m, args, below, meth, c, E, n0, z0, Q⟩ := X
  intro ok cap H locs ls hP hS hl
  exact lv_ldc ok.1 ok.2.1 ok.2.2.2.1 (ok.2.2.2.2.1 _ hw) hd (k ok cap H locs ls hP hS hl)
theorem z_ldcw {idx : Nat} {v : Int32} (hd : decode M.2.1 pc = .ok (.ldc_w idx, 3)) (hw : Cond.constant M.1.cls idx v ∈ zWs) (k : Z X M (pc + 3) lv (.int v :: st) S) : Z X M pc lv st S := by
  obtain ⟨p, l, e, R, s, m, args, below, meth, c, E, n0, z0, Q⟩ := X
  intro ok cap H locs ls hP hS hl
  exact lv_ldcw ok.1 ok.2.1 ok.2.2.2.1 (ok.2.2.2.2.1 _ hw) hd (k ok cap H locs ls hP hS hl)
theorem z_ldc2 {idx : Nat} {v : Int64} (hd : decode M.2.1 pc = .ok (.ldc2_w idx, 3)) (hw : Cond.constantLong M.1.cls idx v ∈ zWs) (k : Z X M (pc + 3) lv (.long v :: st) S) : Z X M pc lv st S := by
  obtain ⟨p, l, e, R, s, m, args, below, meth, c, E, n0, z0, Q⟩ := X
  intro ok cap H locs ls hP hS hl
  exact lv_ldc2 ok.1 ok.2.1 ok.2.2.2.1 (ok.2.2.2.2.1 _ hw) hd (k ok cap H locs ls hP hS hl)
theorem z_ldcS {idx i : Nat} {tx : String} (hd : decode M.2.1 pc = .ok (.ldc idx, 2)) (hw : (M.1.cls, idx, tx, i) ∈ zStr) (k : Z X M (pc + 2) lv (.ref (1000 + i) :: st) S) : Z X M pc lv st S := by
  obtain ⟨p, l, e, R, s, m, args, below, meth, c, E, n0, z0, Q⟩ := X
  intro ok cap H locs ls hP hS hl
  have hK : zK E s := ok.2.2.2.2.2.2.2.2.2.2.1
  have h2 : vk_R M.1.cls idx tx (zad E (1000 + i)) s := by
    have h3 := hK.2.2.1 _ hw
    have e : zad E (1000 + i) = E.2.2.2 i := by simp [zad, show ¬ 1000 + i < 1000 by omega]
    rw [e]
    exact h3
  exact va_ldcS ok.1 ok.2.1 ok.2.2.2.1 h2 hd (k ok cap H locs ls hP hS hl)
theorem z_tsw {dflt : Int} {offs : Array Int} {len : Nat} {x : Int32} (tg : List Nat) (dt : Nat) (hd : decode M.2.1 pc = .ok (.tableswitch dflt 0 ((tg.length : Int) - 1) offs, len)) (ho : offs.toList.map (fun o => (pc : Int) + o) = tg.map (fun t : Nat => (t : Int))) (hdt : (pc : Int) + dflt = (dt : Int)) (hn : tg.length < 1000)
    (kt : ∀ (i t : Nat), tg[i]? = some t → x = nI i → Z X M t lv st S) (kf : (∀ i, i < tg.length → ¬ x = nI i) → Z X M dt lv st S) : Z X M pc lv (.int x :: st) S := by
  obtain ⟨p, l, e, R, s, m, args, below, meth, c, E, n0, z0, Q⟩ := X
  intro ok cap H locs ls hP hS hl
  by_cases h : ∃ i, i < tg.length ∧ x = nI i
  · obtain ⟨i, hi, rfl⟩ := h
    have e : (nI i).toInt = (i : Int) := nI_toInt (by omega)
    have h2 : (offs.toList.map (fun o => (pc : Int) + o))[i]? = some ((tg[i] : Nat) : Int) := by
      rw [ho, List.getElem?_map, List.getElem?_eq_getElem hi]
      rfl
    rw [List.getElem?_map] at h2
    obtain ⟨off, h3, h4⟩ := Option.map_eq_some_iff.mp h2
    refine lv_tableIn (off := off) (tgt := tg[i]) ok.1 ok.2.1 hd (by rw [e]; omega) (by rw [e]; omega) ?_ h4 (kt i tg[i] (List.getElem?_eq_getElem hi) rfl ok cap H locs ls hP hS hl)
    rw [e, show ((i : Int) - 0).toNat = i by omega]
    simpa using h3
  · have h5 : ∀ i, i < tg.length → ¬ x = nI i := fun i hi e => h ⟨i, hi, e⟩
    refine lv_tableOut (tgt := dt) ok.1 ok.2.1 hd ?_ hdt (kf h5 ok cap H locs ls hP hS hl)
    by_cases q : x.toInt < 0
    · exact Or.inl q
    · right
      apply Int.lt_of_not_ge
      intro q2
      refine h5 x.toInt.toNat (by omega) ?_
      apply Int32.toInt_inj.mp
      rw [nI_toInt (by omega)]
      omega
theorem z_lsw {dflt : Int} {ps : Array (Int × Int)} {len : Nat} {x : Int32} {off : Int} {t : Nat} (hd : decode M.2.1 pc = .ok (.lookupswitch dflt ps, len)) (hp : (ps.toList.zip (ps.toList.drop 1)).all (fun (a, next) => a.1 < next.1) = true) (ho : Op.lookupswitch.offset ps.toList dflt x.toInt = off) (ht : (pc : Int) + off = (t : Int)) (k : Z X M t lv st S) : Z X M pc lv (.int x :: st) S := by
  obtain ⟨p, l, e, R, s, m, args, below, meth, c, E, n0, z0, Q⟩ := X
  intro ok cap H locs ls hP hS hl
  exact lv_lookup ok.1 ok.2.1 hd hp ho ht (k ok cap H locs ls hP hS hl)
end ZR1
