/-! ===== the law: what holds at its entry, its rules, its loop ===== -/
def zIx : List Nat := [45, 65, 87, 89, 91, 93, 95, 97]
abbrev zTm (i : Nat) : Term := .string "LightSheets$PageReader" (zIx.getD i 0)
abbrev zFl : List Cond := flatC (Jvm.Cond.and given_1 narrow_1)
set_option maxRecDepth 20000 in
theorem fs_ex : ∀ i, i < 8 → Cond.exactly (zTm i) "java/lang/String" ∈ zFl := by decide +kernel
set_option maxRecDepth 20000 in
theorem fs_co : ∀ i, i < 8 → Cond.eq (.field (zTm i) "java/lang/String" "coder" "B") (.int 0) ∈ zFl := by decide +kernel
set_option maxRecDepth 20000 in
theorem fs_ar : ∀ i, i < 8 → Cond.arrayOf (.field (zTm i) "java/lang/String" "value" "[B") .byte ∈ zFl := by decide +kernel
set_option maxRecDepth 20000 in
theorem fs_le : ∀ i, i < 8 → Cond.eq (.length (.field (zTm i) "java/lang/String" "value" "[B")) (.int (Int32.ofNat (zLen.getD i 0))) ∈ zFl := by decide +kernel
set_option maxRecDepth 20000 in
theorem fs_el : ∀ i, i < 8 → ∀ j, j < zLen.getD i 0 → Cond.eq (.elem (.field (zTm i) "java/lang/String" "value" "[B") (.int (Int32.ofNat j))) (.int ((zByt.getD i []).getD j 0)) ∈ zFl := by decide +kernel
set_option maxRecDepth 20000 in
theorem fs_ne : ∀ i, i < 8 → ∀ j, j < 8 → i ≠ j → (Cond.not (Cond.eq (zTm i) (zTm j)) ∈ zFl ∨ Cond.not (Cond.eq (zTm j) (zTm i)) ∈ zFl) := by decide +kernel
set_option maxRecDepth 20000 in
theorem fs_cs : Cond.eq (.static "java/lang/String" "COMPACT_STRINGS" "Z") (.int 1) ∈ zFl := by decide +kernel
set_option maxRecDepth 20000 in
theorem fs_fm : Cond.isRef (.static "jdk/internal/util/Preconditions" "SIOOBE_FORMATTER" "Ljava/util/function/BiFunction;") ∈ zFl := by decide +kernel
theorem fs_len : ∀ i, i < 8 → zLen.getD i 0 < 2 ^ 31 := by decide
theorem tb_str0 : Cond.stringRef "LightSheets$PageReader" 45 "law" ∈ lw_tbl := List.mem_of_getElem? (i := 366) (by decide +kernel)
theorem tb_str1 : Cond.stringRef "LightSheets$PageReader" 65 "letter" ∈ lw_tbl := List.mem_of_getElem? (i := 444) (by decide +kernel)
theorem tb_str2 : Cond.stringRef "LightSheets$PageReader" 87 "plain" ∈ lw_tbl := List.mem_of_getElem? (i := 453) (by decide +kernel)
theorem tb_str3 : Cond.stringRef "LightSheets$PageReader" 89 "bold" ∈ lw_tbl := List.mem_of_getElem? (i := 454) (by decide +kernel)
theorem tb_str4 : Cond.stringRef "LightSheets$PageReader" 91 "thin" ∈ lw_tbl := List.mem_of_getElem? (i := 455) (by decide +kernel)
theorem tb_str5 : Cond.stringRef "LightSheets$PageReader" 93 "mark" ∈ lw_tbl := List.mem_of_getElem? (i := 456) (by decide +kernel)
theorem tb_str6 : Cond.stringRef "LightSheets$PageReader" 95 "dry" ∈ lw_tbl := List.mem_of_getElem? (i := 457) (by decide +kernel)
theorem tb_str7 : Cond.stringRef "LightSheets$PageReader" 97 "sheet" ∈ lw_tbl := List.mem_of_getElem? (i := 473) (by decide +kernel)
theorem tb_cs : Cond.laysStatic "java/lang/String" "COMPACT_STRINGS" "Z" ∈ lw_tbl := List.mem_of_getElem? (i := 384) (by decide +kernel)
theorem tb_fm : Cond.laysStatic "jdk/internal/util/Preconditions" "SIOOBE_FORMATTER" "Ljava/util/function/BiFunction;" ∈ lw_tbl := List.mem_of_getElem? (i := 400) (by decide +kernel)
theorem tb_is : Cond.initialized "java/lang/String" ∈ lw_tbl := List.mem_of_getElem? (i := 74) (by decide +kernel)
theorem tb_ip : Cond.initialized "jdk/internal/util/Preconditions" ∈ lw_tbl := List.mem_of_getElem? (i := 76) (by decide +kernel)
theorem tb_ai : Cond.arrayClass .int ∈ lw_tbl := (zWs_good ar_int).1
theorem tb_ab : Cond.arrayClass .boolean ∈ lw_tbl := (zWs_good ar_bool).1
theorem tb_ap : Cond.arrayOver (.object "LightSheets$Page") ∈ lw_tbl := List.mem_of_getElem? (i := 91) (by decide +kernel)
theorem tb_aw : Cond.arrayOver (.object "LightSheets$Row") ∈ lw_tbl := List.mem_of_getElem? (i := 89) (by decide +kernel)
theorem tb_in0 : Cond.instantiable RX0 5 ∈ lw_tbl := List.mem_of_getElem? (i := 182) (by decide +kernel)
theorem tb_in1 : Cond.instantiable RX1 2 ∈ lw_tbl := List.mem_of_getElem? (i := 205) (by decide +kernel)
theorem tb_in2 : Cond.instantiable RX2 8 ∈ lw_tbl := List.mem_of_getElem? (i := 125) (by decide +kernel)
theorem tb_in3 : Cond.instantiable RX3 5 ∈ lw_tbl := List.mem_of_getElem? (i := 93) (by decide +kernel)
theorem tb_in4 : Cond.instantiable RX4 3 ∈ lw_tbl := List.mem_of_getElem? (i := 217) (by decide +kernel)
theorem tb_in5 : Cond.instantiable RX5 5 ∈ lw_tbl := List.mem_of_getElem? (i := 99) (by decide +kernel)
theorem tb_in6 : Cond.instantiable RX6 7 ∈ lw_tbl := List.mem_of_getElem? (i := 81) (by decide +kernel)
theorem tb_in7 : Cond.instantiable RX7 25 ∈ lw_tbl := List.mem_of_getElem? (i := 832) (by decide +kernel)
theorem zArr {args : Array Value} {s : State} {ty : FieldType} (ht : ty = .int ∨ ty = .boolean) (h : (Cond.arrayClass ty).before args s = true) : ∃ cA : ClassId, ArrOfT s cA ty ∧ va_RA s cA ty := by
  obtain ⟨cA, kA, comp, h1, h2, h3⟩ := Cond.arrayClass_spec h
  refine ⟨cA, fun n z => ⟨fun k h => (by cases h), kA, h2, comp, h3⟩, ?_⟩
  rcases ht with rfl | rfl <;> exact h1
theorem zArrQ {args : Array Value} {s : State} {C : String} (h : (Cond.arrayOver (.object C)).before args s = true) : ∃ cA : ClassId, ArrOfT s cA (.object C) ∧ va_RA s cA (.object C) := by
  obtain ⟨comp, cA, kA, h1, h2, h3, h4, h5⟩ := Cond.arrayOver_spec h
  exact ⟨cA, fun n z => ⟨fun k h => (by cases h), kA, h3, comp, h4⟩, kA, comp, h3, h4, h1, h5⟩
theorem zStart {args : Array Value} {s : State} {b : Nat} (hts : ∀ w ∈ lw_tbl, w.before args s = true) (hgv : (Jvm.Cond.and given_1 narrow_1).before args s = true) : ∃ E : zE, E.2.2.1 = s.heap.size ∧ E.2.2.2 200 = b ∧ zK E s ∧ zKh E s s.heap := by
  have hf := flat_of_before _ hgv
  have hA : ∀ a : Nat, a < s.heap.size → ¬ (fun q : Nat => s.heap.size ≤ q) a := fun a h => Nat.not_le.mpr h
  obtain ⟨adK, adV, hS, hev⟩ := vk_Sof (args := args) (s := s) (N := 8) (tm := zTm) (len := zLen) (byt := zByt) (A := fun q : Nat => s.heap.size ≤ q) fs_len (fun i hi => hf _ (fs_ex i hi)) (fun i hi => hf _ (fs_co i hi)) (fun i hi => hf _ (fs_ar i hi)) (fun i hi => hf _ (fs_le i hi)) (fun i hi j hj => hf _ (fs_el i hi j hj)) (fun i j hi hj hne => (fs_ne i hi j hj hne).imp (hf _) (hf _)) hA
  have hcs := va_Zof (A := fun q : Nat => s.heap.size ≤ q) (hts _ tb_cs) (hts _ tb_is) (va_eqi (hf _ fs_cs)) hA
  have hfm := va_Zqof (A := fun q : Nat => s.heap.size ≤ q) (hts _ tb_fm) (hts _ tb_ip) (hf _ fs_fm) hA
  obtain ⟨tf, hfm⟩ : ∃ tf : Nat, ∃ v, (v = .null ∨ v = .ref tf) ∧ va_Z "jdk/internal/util/Preconditions" "SIOOBE_FORMATTER" "Ljava/util/function/BiFunction;" v (fun q : Nat => s.heap.size ≤ q) s s.heap := by
    rcases hfm with h | ⟨t, h⟩
    · exact ⟨0, _, Or.inl rfl, h⟩
    · exact ⟨t, _, Or.inr rfl, h⟩
  obtain ⟨a0, g0⟩ := zArr (Or.inl rfl) (hts _ tb_ai)
  obtain ⟨a1, g1⟩ := zArr (Or.inr rfl) (hts _ tb_ab)
  obtain ⟨a2, g2⟩ := zArrQ (hts _ tb_ap)
  obtain ⟨a3, g3⟩ := zArrQ (hts _ tb_aw)
  have hz : ∀ w ∈ zWs, w.before args s = true := fun w hw => hts w (zWs_good hw).1
  obtain ⟨c0, i0, k0⟩ := u_known (C := RX0) (T := TX0) (N := 5) hz zc0.2.1 (hts _ tb_in0)
  obtain ⟨c1, i1, k1⟩ := u_known (C := RX1) (T := TX1) (N := 2) hz zc1.2.1 (hts _ tb_in1)
  obtain ⟨c2, i2, k2⟩ := u_known (C := RX2) (T := TX2) (N := 8) hz zc2.2.1 (hts _ tb_in2)
  obtain ⟨c3, i3, k3⟩ := u_known (C := RX3) (T := TX3) (N := 5) hz zc3.2.1 (hts _ tb_in3)
  obtain ⟨c4, i4, k4⟩ := u_known (C := RX4) (T := TX4) (N := 3) hz zc4.2.1 (hts _ tb_in4)
  obtain ⟨c5, i5, k5⟩ := u_known (C := RX5) (T := TX5) (N := 5) hz zc5.2.1 (hts _ tb_in5)
  obtain ⟨c6, i6, k6⟩ := u_known (C := RX6) (T := TX6) (N := 7) hz zc6.2.1 (hts _ tb_in6)
  obtain ⟨c7, i7, k7⟩ := u_known (C := RX7) (T := TX7) (N := 25) hz zc7.2.1 (hts _ tb_in7)
  refine ⟨((fun k => match k with | 0 => c0 | 1 => c1 | 2 => c2 | 3 => c3 | 4 => c4 | 5 => c5 | 6 => c6 | _ => c7, fun k => match k with | 0 => i0 | 1 => i1 | 2 => i2 | 3 => i3 | 4 => i4 | 5 => i5 | 6 => i6 | _ => i7), fun k => match k with | 0 => a0 | 1 => a1 | 2 => a2 | _ => a3, s.heap.size, fun k => if k < 100 then adK k else if k < 200 then adV (k - 100) else if k = 200 then b else tf), rfl, rfl, ⟨⟨?_, ?_⟩, ?_, ?_, va_AO.of (hts _ tb_ap), va_AO.of (hts _ tb_aw)⟩, ⟨?_, hcs, ?_⟩⟩
  · intro k q hq
    match k, hq with
    | 0, hq => cases hq; exact k0
    | 1, hq => cases hq; exact k1
    | 2, hq => cases hq; exact k2
    | 3, hq => cases hq; exact k3
    | 4, hq => cases hq; exact k4
    | 5, hq => cases hq; exact k5
    | 6, hq => cases hq; exact k6
    | 7, hq => cases hq; exact k7
    | k + 8, hq => simp [vwCl] at hq
  · intro k q hq
    match k, hq with
    | 0, hq => cases hq; exact g0
    | 1, hq => cases hq; exact g1
    | 2, hq => cases hq; exact g2
    | 3, hq => cases hq; exact g3
    | k + 4, hq => simp [ztys] at hq
  · intro w hw
    obtain ⟨a, i, x, b2, rfl⟩ := zNest_of (List.mem_filter.mp hw).2
    exact va_Nw.of rfl (hts _ (List.mem_filter.mp hw).1)
  · intro r hr
    have key : ∀ r ∈ zStr, (Cond.stringRef r.1 r.2.1 r.2.2.1 ∈ lw_tbl ∧ r.2.2.2 < 8 ∧ r.1 = "LightSheets$PageReader" ∧ r.2.1 = zIx.getD r.2.2.2 0) := by
      intro r hr
      simp only [zStr, List.mem_cons, List.not_mem_nil, or_false] at hr
      rcases hr with rfl | rfl | rfl | rfl | rfl | rfl | rfl | rfl

      · exact ⟨tb_str0, by decide, rfl, rfl⟩
      · exact ⟨tb_str1, by decide, rfl, rfl⟩
      · exact ⟨tb_str2, by decide, rfl, rfl⟩
      · exact ⟨tb_str3, by decide, rfl, rfl⟩
      · exact ⟨tb_str4, by decide, rfl, rfl⟩
      · exact ⟨tb_str5, by decide, rfl, rfl⟩
      · exact ⟨tb_str6, by decide, rfl, rfl⟩
      · exact ⟨tb_str7, by decide, rfl, rfl⟩
    obtain ⟨h1, h2, h3, h4⟩ := key r hr
    have h5 : (Term.string "LightSheets$PageReader" (zIx.getD r.2.2.2 0)).eval args s none [] s = some (.ref (adK r.2.2.2)) := hev _ h2
    rw [← h4, ← h3] at h5
    have e : (if r.2.2.2 < 100 then adK r.2.2.2 else if r.2.2.2 < 200 then adV (r.2.2.2 - 100) else if r.2.2.2 = 200 then b else tf) = adK r.2.2.2 := if_pos (by omega)
    show vk_R r.1 r.2.1 r.2.2.1 (if r.2.2.2 < 100 then adK r.2.2.2 else if r.2.2.2 < 200 then adV (r.2.2.2 - 100) else if r.2.2.2 = 200 then b else tf) s
    rw [e]
    exact vk_R.of (hts _ h1) h5
  · have e1 : ∀ i, i < 8 → (if i < 100 then adK i else if i < 200 then adV (i - 100) else if i = 200 then b else tf) = adK i := fun i hi => if_pos (by omega)
    have e2 : ∀ i, i < 8 → (if 100 + i < 100 then adK (100 + i) else if 100 + i < 200 then adV (100 + i - 100) else if 100 + i = 200 then b else tf) = adV i := fun i hi => by
      rw [if_neg (by omega), if_pos (by omega), Nat.add_sub_cancel_left]
    refine ⟨fun i hi => ?_, fun i j hi hj e => ?_⟩
    · have h := hS.1 i hi
      dsimp only
      rw [e1 i hi, e2 i hi]
      exact h
    · dsimp only at e
      rw [e1 i hi, e1 j hj] at e
      exact hS.2 i j hi hj e
  · obtain ⟨v, hv, hZ⟩ := hfm
    exact ⟨v, hv, hZ⟩
