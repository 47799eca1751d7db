/-! ===== preconditions, by program ===== -/
set_option maxRecDepth 20000 in
theorem w_X1_traced {f : zF} {K : Int32 → zF → Prop} {p1 : Int32} (h : ((p1 < 0 → K (-1000000) f) ∧ (¬ p1 < 0 → (((f 22 1) ≤ p1 → K (-1000000) f) ∧ (¬ (f 22 1) ≤ p1 → ci mX6_itemOf [.ref 23, .int p1] f (fun r1 f1 => K r1 f1)))))) : ci mX1_traced [.ref 22, .int p1] f K := by
  refine ci_of (by decide) (Nat.le_of_ble_eq_true rfl) (fun X hX => ?_)
  refine z_iload_n (pc := 0) dX1_traced_0 rfl ?_
  refine z_if_lt (pc := 1) (t := 23) dX1_traced_1 (by decide) (fun c_1 => ?_) (fun c_1 => ?_)
  · replace h := h.1 c_1
    refine z_ldc (pc := 23) (v := -1000000) dX1_traced_23 co_X1_46 ?_
    exact k_iret (pc := 25) hX dX1_traced_25 rfl rfl h
  · replace h := h.2 c_1
    refine z_iload_n (pc := 4) dX1_traced_4 rfl ?_
    refine z_aload_n (pc := 5) dX1_traced_5 rfl ?_
    refine k_geti (pc := 6) (j := 1) zc1 dX1_traced_6 fl_X1_15 (by decide) rfl (by decide) rfl (v := (f 22 1)) rfl ?_
    refine z_icmp_ge (pc := 9) (t := 23) dX1_traced_9 (by decide) (fun c_9 => ?_) (fun c_9 => ?_)
    · replace h := h.1 c_9
      refine z_ldc (pc := 23) (v := -1000000) dX1_traced_23 co_X1_46 ?_
      exact k_iret (pc := 25) hX dX1_traced_25 rfl rfl h
    · replace h := h.2 c_9
      refine z_aload_n (pc := 12) dX1_traced_12 rfl ?_
      refine k_getr (pc := 13) (j := 0) zc1 dX1_traced_13 fl_X1_9 (by decide) rfl (by decide) rfl (k2 := 23) rfl ?_
      refine z_iload_n (pc := 16) dX1_traced_16 rfl ?_
      refine k_cSi (pc := 17) (av := [.ref 23, .int p1]) dX1_traced_17 lk_X1_42 rfl (by decide) (by decide) rfl h (fun r1 f1 h => ?_)
      refine z_goto (pc := 20) (t := 25) dX1_traced_20 (by decide) ?_
      exact k_iret (pc := 25) hX dX1_traced_25 rfl rfl h
set_option maxRecDepth 20000 in
theorem w_X2_addPlace {f : zF} {K : zF → Prop} {k : Nat} {p1 : Int32} (hk : isPage k) (h : cv mX6_putItem [.ref (k + 4), .int (f k 2), .int p1] f (fun f1 => K (zup f1 k 2 ((f1 k 2) + 1)))) : cv mX2_addPlace [.ref k, .int p1] f K := by
  refine cv_of (by decide) (Nat.le_of_ble_eq_true rfl) (fun X hX => ?_)
  refine z_aload_n (pc := 0) dX2_addPlace_0 rfl ?_
  refine k_getr (pc := 1) (j := 6) zc2 dX2_addPlace_1 fl_X2_21 (by decide) rfl (pg_lt hk) (pg_sh hk) (pg_rf4 hk) ?_
  refine z_aload_n (pc := 4) dX2_addPlace_4 rfl ?_
  refine k_geti (pc := 5) (j := 2) zc2 dX2_addPlace_5 fl_X2_31 (by decide) rfl (pg_lt hk) (pg_sh hk) (v := (f k 2)) rfl ?_
  refine z_iload_n (pc := 8) dX2_addPlace_8 rfl ?_
  refine k_cSv (pc := 9) (av := [.ref (k + 4), .int (f k 2), .int p1]) dX2_addPlace_9 lk_X2_41 rfl (by decide) (by decide) rfl h (fun f1 h => ?_)
  refine z_aload_n (pc := 12) dX2_addPlace_12 rfl ?_
  refine z_dup (pc := 13) dX2_addPlace_13 rfl ?_
  refine k_geti (pc := 14) (j := 2) zc2 dX2_addPlace_14 fl_X2_31 (by decide) rfl (pg_lt hk) (pg_sh hk) (v := (f1 k 2)) rfl ?_
  refine z_iconst (pc := 17) (v := 1) dX2_addPlace_17 ic_1 ?_
  refine z_iadd (pc := 18) dX2_addPlace_18 ?_
  refine k_puti (pc := 19) (j := 2) zc2 dX2_addPlace_19 fl_X2_31 (by decide) rfl rfl rfl (pg_lt hk) (pg_sh hk) ?_
  exact k_vret (pc := 22) hX dX2_addPlace_22 rfl h
set_option maxRecDepth 20000 in
theorem w_X2_cellsOf {f : zF} {K : Int32 → zF → Prop} {k : Nat} {p1 : Int32} (hk : isPage k) (h : ci mX6_itemOf [.ref (k + 1), .int p1] f (fun r1 f1 => K r1 f1)) : ci mX2_cellsOf [.ref k, .int p1] f K := by
  refine ci_of (by decide) (Nat.le_of_ble_eq_true rfl) (fun X hX => ?_)
  refine z_aload_n (pc := 0) dX2_cellsOf_0 rfl ?_
  refine k_getr (pc := 1) (j := 3) zc2 dX2_cellsOf_1 fl_X2_9 (by decide) rfl (pg_lt hk) (pg_sh hk) (pg_rf1 hk) ?_
  refine z_iload_n (pc := 4) dX2_cellsOf_4 rfl ?_
  refine k_cSi (pc := 5) (av := [.ref (k + 1), .int p1]) dX2_cellsOf_5 lk_X2_56 rfl (by decide) (by decide) rfl h (fun r1 f1 h => ?_)
  exact k_iret (pc := 8) hX dX2_cellsOf_8 rfl rfl h
set_option maxRecDepth 20000 in
theorem w_X2_kindOf {f : zF} {K : Int32 → zF → Prop} {k : Nat} {p1 : Int32} (hk : isPage k) (h : ci mX6_itemOf [.ref (k + 2), .int p1] f (fun r1 f1 => K r1 f1)) : ci mX2_kindOf [.ref k, .int p1] f K := by
  refine ci_of (by decide) (Nat.le_of_ble_eq_true rfl) (fun X hX => ?_)
  refine z_aload_n (pc := 0) dX2_kindOf_0 rfl ?_
  refine k_getr (pc := 1) (j := 4) zc2 dX2_kindOf_1 fl_X2_15 (by decide) rfl (pg_lt hk) (pg_sh hk) (pg_rf2 hk) ?_
  refine z_iload_n (pc := 4) dX2_kindOf_4 rfl ?_
  refine k_cSi (pc := 5) (av := [.ref (k + 2), .int p1]) dX2_kindOf_5 lk_X2_56 rfl (by decide) (by decide) rfl h (fun r1 f1 h => ?_)
  exact k_iret (pc := 8) hX dX2_kindOf_8 rfl rfl h
set_option maxRecDepth 20000 in
theorem w_X2_letterAt {f : zF} {K : Int32 → zF → Prop} {k : Nat} {p1 : Int32} {p2 : Int32} (hk : isPage k) (h : ((¬ p1 = 0 → ci mX6_itemOf [.ref (k + 5), .int p2] f (fun r1 f1 => K r1 f1)) ∧ (p1 = 0 → ci mX6_itemOf [.ref (k + 4), .int p2] f (fun r2 f2 => K r2 f2)))) : ci mX2_letterAt [.ref k, .int p1, .int p2] f K := by
  refine ci_of (by decide) (Nat.le_of_ble_eq_true rfl) (fun X hX => ?_)
  refine z_iload_n (pc := 0) dX2_letterAt_0 rfl ?_
  refine z_if_ne (pc := 1) (t := 11) dX2_letterAt_1 (by decide) (fun c_1 => ?_) (fun c_1 => ?_)
  · replace h := h.1 c_1
    refine z_aload_n (pc := 11) dX2_letterAt_11 rfl ?_
    refine k_getr (pc := 12) (j := 7) zc2 dX2_letterAt_12 fl_X2_24 (by decide) rfl (pg_lt hk) (pg_sh hk) (pg_rf5 hk) ?_
    refine z_iload_n (pc := 15) dX2_letterAt_15 rfl ?_
    refine k_cSi (pc := 16) (av := [.ref (k + 5), .int p2]) dX2_letterAt_16 lk_X2_56 rfl (by decide) (by decide) rfl h (fun r1 f1 h => ?_)
    exact k_iret (pc := 19) hX dX2_letterAt_19 rfl rfl h
  · replace h := h.2 c_1
    refine z_aload_n (pc := 4) dX2_letterAt_4 rfl ?_
    refine k_getr (pc := 5) (j := 6) zc2 dX2_letterAt_5 fl_X2_21 (by decide) rfl (pg_lt hk) (pg_sh hk) (pg_rf4 hk) ?_
    refine z_goto (pc := 8) (t := 15) dX2_letterAt_8 (by decide) ?_
    refine z_iload_n (pc := 15) dX2_letterAt_15 rfl ?_
    refine k_cSi (pc := 16) (av := [.ref (k + 4), .int p2]) dX2_letterAt_16 lk_X2_56 rfl (by decide) (by decide) rfl h (fun r2 f2 h => ?_)
    exact k_iret (pc := 19) hX dX2_letterAt_19 rfl rfl h
set_option maxRecDepth 20000 in
theorem w_X2_offOf {f : zF} {K : Int32 → zF → Prop} {k : Nat} {p1 : Int32} {p2 : Int32} (hk : isPage k) (h : ci mX6_itemOf [.ref (k + 1), .int p1] f (fun r1 f1 => ci mJ6_bitCount_0f7a4 [.int (r1 ^^^ p2)] f1 (fun r2 f2 => K r2 f2))) : ci mX2_offOf [.ref k, .int p1, .int p2] f K := by
  refine ci_of (by decide) (Nat.le_of_ble_eq_true rfl) (fun X hX => ?_)
  refine z_aload_n (pc := 0) dX2_offOf_0 rfl ?_
  refine k_getr (pc := 1) (j := 3) zc2 dX2_offOf_1 fl_X2_9 (by decide) rfl (pg_lt hk) (pg_sh hk) (pg_rf1 hk) ?_
  refine z_iload_n (pc := 4) dX2_offOf_4 rfl ?_
  refine k_cSi (pc := 5) (av := [.ref (k + 1), .int p1]) dX2_offOf_5 lk_X2_56 rfl (by decide) (by decide) rfl h (fun r1 f1 h => ?_)
  refine z_iload_n (pc := 8) dX2_offOf_8 rfl ?_
  refine z_ixor (pc := 9) dX2_offOf_9 ?_
  refine k_cSi (pc := 10) (av := [.int (r1 ^^^ p2)]) dX2_offOf_10 lk_X2_117 rfl (by decide) (by decide) rfl h (fun r2 f2 h => ?_)
  exact k_iret (pc := 13) hX dX2_offOf_13 rfl rfl h
set_option maxRecDepth 20000 in
theorem w_X2_putLetter {f : zF} {K : zF → Prop} {k : Nat} {p1 : Int32} {p2 : Int32} {p3 : Int32} (hk : isPage k) (h : ((¬ p1 = 0 → cv mX6_putItem [.ref (k + 5), .int p2, .int p3] f (fun f1 => K f1)) ∧ (p1 = 0 → cv mX6_putItem [.ref (k + 4), .int p2, .int p3] f (fun f2 => K f2)))) : cv mX2_putLetter [.ref k, .int p1, .int p2, .int p3] f K := by
  refine cv_of (by decide) (Nat.le_of_ble_eq_true rfl) (fun X hX => ?_)
  refine z_iload_n (pc := 0) dX2_putLetter_0 rfl ?_
  refine z_if_ne (pc := 1) (t := 11) dX2_putLetter_1 (by decide) (fun c_1 => ?_) (fun c_1 => ?_)
  · replace h := h.1 c_1
    refine z_aload_n (pc := 11) dX2_putLetter_11 rfl ?_
    refine k_getr (pc := 12) (j := 7) zc2 dX2_putLetter_12 fl_X2_24 (by decide) rfl (pg_lt hk) (pg_sh hk) (pg_rf5 hk) ?_
    refine z_iload_n (pc := 15) dX2_putLetter_15 rfl ?_
    refine z_iload_n (pc := 16) dX2_putLetter_16 rfl ?_
    refine k_cSv (pc := 17) (av := [.ref (k + 5), .int p2, .int p3]) dX2_putLetter_17 lk_X2_41 rfl (by decide) (by decide) rfl h (fun f1 h => ?_)
    exact k_vret (pc := 20) hX dX2_putLetter_20 rfl h
  · replace h := h.2 c_1
    refine z_aload_n (pc := 4) dX2_putLetter_4 rfl ?_
    refine k_getr (pc := 5) (j := 6) zc2 dX2_putLetter_5 fl_X2_21 (by decide) rfl (pg_lt hk) (pg_sh hk) (pg_rf4 hk) ?_
    refine z_goto (pc := 8) (t := 15) dX2_putLetter_8 (by decide) ?_
    refine z_iload_n (pc := 15) dX2_putLetter_15 rfl ?_
    refine z_iload_n (pc := 16) dX2_putLetter_16 rfl ?_
    refine k_cSv (pc := 17) (av := [.ref (k + 4), .int p2, .int p3]) dX2_putLetter_17 lk_X2_41 rfl (by decide) (by decide) rfl h (fun f2 h => ?_)
    exact k_vret (pc := 20) hX dX2_putLetter_20 rfl h
set_option maxRecDepth 20000 in
theorem w_X2_shownOf {f : zF} {K : Int32 → zF → Prop} {k : Nat} {p1 : Int32} {p2 : Int32} (hk : isPage k) (h : ci mX6_itemOf [.ref (k + 1), .int p1] f (fun r1 f1 => ci mX6_itemOf [.ref (k + 3), .int p2] f1 (fun r2 f2 => K (r1 ||| r2) f2))) : ci mX2_shownOf [.ref k, .int p1, .int p2] f K := by
  refine ci_of (by decide) (Nat.le_of_ble_eq_true rfl) (fun X hX => ?_)
  refine z_aload_n (pc := 0) dX2_shownOf_0 rfl ?_
  refine k_getr (pc := 1) (j := 3) zc2 dX2_shownOf_1 fl_X2_9 (by decide) rfl (pg_lt hk) (pg_sh hk) (pg_rf1 hk) ?_
  refine z_iload_n (pc := 4) dX2_shownOf_4 rfl ?_
  refine k_cSi (pc := 5) (av := [.ref (k + 1), .int p1]) dX2_shownOf_5 lk_X2_56 rfl (by decide) (by decide) rfl h (fun r1 f1 h => ?_)
  refine z_aload_n (pc := 8) dX2_shownOf_8 rfl ?_
  refine k_getr (pc := 9) (j := 5) zc2 dX2_shownOf_9 fl_X2_18 (by decide) rfl (pg_lt hk) (pg_sh hk) (pg_rf3 hk) ?_
  refine z_iload_n (pc := 12) dX2_shownOf_12 rfl ?_
  refine k_cSi (pc := 13) (av := [.ref (k + 3), .int p2]) dX2_shownOf_13 lk_X2_56 rfl (by decide) (by decide) rfl h (fun r2 f2 h => ?_)
  refine z_ior (pc := 16) dX2_shownOf_16 ?_
  exact k_iret (pc := 17) hX dX2_shownOf_17 rfl rfl h
set_option maxRecDepth 20000 in
theorem w_X2_throughFor {f : zF} {K : Int32 → zF → Prop} {p1 : Int32} {p2 : Int32} (h : ((p1 = 3 → ci mX6_turned [.int p2] f (fun r1 f1 => K (r1 &&& (-449)) f1)) ∧ (p1 = 4 → K p2 f) ∧ (p1 = 5 → K 0 f) ∧ (¬ p1 = 3 → ¬ p1 = 4 → ¬ p1 = 5 → ci mX6_turned [.int p2] f (fun r2 f2 => K r2 f2)))) : ci mX2_throughFor [.int p1, .int p2] f K := by
  refine ci_of (by decide) (Nat.le_of_ble_eq_true rfl) (fun X hX => ?_)
  refine z_iload_n (pc := 0) dX2_throughFor_0 rfl ?_
  refine z_tsw3_3 (pc := 1) 28 37 39 41 dX2_throughFor_1 rfl (by decide) (by decide) (fun c_1_0 => ?_) (fun c_1_1 => ?_) (fun c_1_2 => ?_) (fun c_1_0 c_1_1 c_1_2 => ?_)
  · replace h := h.1 c_1_0
    refine z_iload_n (pc := 28) dX2_throughFor_28 rfl ?_
    refine k_cSi (pc := 29) (av := [.int p2]) dX2_throughFor_29 lk_X2_122 rfl (by decide) (by decide) rfl h (fun r1 f1 h => ?_)
    refine z_sipush (pc := 32) (v := -449) dX2_throughFor_32 si_m449 ?_
    refine z_iand (pc := 35) dX2_throughFor_35 ?_
    exact k_iret (pc := 36) hX dX2_throughFor_36 rfl rfl h
  · replace h := h.2.1 c_1_1
    refine z_iload_n (pc := 37) dX2_throughFor_37 rfl ?_
    exact k_iret (pc := 38) hX dX2_throughFor_38 rfl rfl h
  · replace h := h.2.2.1 c_1_2
    refine z_iconst (pc := 39) (v := 0) dX2_throughFor_39 ic_0 ?_
    exact k_iret (pc := 40) hX dX2_throughFor_40 rfl rfl h
  · replace h := h.2.2.2 c_1_0 c_1_1 c_1_2
    refine z_iload_n (pc := 41) dX2_throughFor_41 rfl ?_
    refine k_cSi (pc := 42) (av := [.int p2]) dX2_throughFor_42 lk_X2_122 rfl (by decide) (by decide) rfl h (fun r2 f2 h => ?_)
    exact k_iret (pc := 45) hX dX2_throughFor_45 rfl rfl h
set_option maxRecDepth 20000 in
theorem w_X2_throughOf {f : zF} {K : Int32 → zF → Prop} {k : Nat} {p1 : Int32} (hk : isPage k) (h : ci mX6_itemOf [.ref (k + 3), .int p1] f (fun r1 f1 => K r1 f1)) : ci mX2_throughOf [.ref k, .int p1] f K := by
  refine ci_of (by decide) (Nat.le_of_ble_eq_true rfl) (fun X hX => ?_)
  refine z_aload_n (pc := 0) dX2_throughOf_0 rfl ?_
  refine k_getr (pc := 1) (j := 5) zc2 dX2_throughOf_1 fl_X2_18 (by decide) rfl (pg_lt hk) (pg_sh hk) (pg_rf3 hk) ?_
  refine z_iload_n (pc := 4) dX2_throughOf_4 rfl ?_
  refine k_cSi (pc := 5) (av := [.ref (k + 3), .int p1]) dX2_throughOf_5 lk_X2_56 rfl (by decide) (by decide) rfl h (fun r1 f1 h => ?_)
  exact k_iret (pc := 8) hX dX2_throughOf_8 rfl rfl h
set_option maxRecDepth 20000 in
theorem w_X3_readsEnd {f : zF} {K : Int32 → zF → Prop}  (h : (((f 4 2) = 0 → K 1 f) ∧ (¬ (f 4 2) = 0 → ci mX3_fails [.ref 3, .int 1] f (fun r1 f1 => ((r1 = 0 → K 0 f1) ∧ (¬ r1 = 0 → K 1 f1)))))) : ci mX3_readsEnd [.ref 3] f K := by
  refine ci_of (by decide) (Nat.le_of_ble_eq_true rfl) (fun X hX => ?_)
  refine z_aload_n (pc := 0) dX3_readsEnd_0 rfl ?_
  refine k_getr (pc := 1) (j := 0) zc3 dX3_readsEnd_1 fl_X3_12 (by decide) rfl (by decide) rfl (k2 := 4) rfl ?_
  refine k_geti (pc := 4) (j := 2) zc5 dX3_readsEnd_4 fl_X3_105 (by decide) rfl (by decide) rfl (v := (f 4 2)) rfl ?_
  refine z_if_eq (pc := 7) (t := 18) dX3_readsEnd_7 (by decide) (fun c_7 => ?_) (fun c_7 => ?_)
  · replace h := h.1 c_7
    refine z_iconst (pc := 18) (v := 1) dX3_readsEnd_18 ic_1 ?_
    refine z_goto (pc := 19) (t := 23) dX3_readsEnd_19 (by decide) ?_
    exact k_iret (pc := 23) hX dX3_readsEnd_23 rfl rfl h
  · replace h := h.2 c_7
    refine z_aload_n (pc := 10) dX3_readsEnd_10 rfl ?_
    refine z_iconst (pc := 11) (v := 1) dX3_readsEnd_11 ic_1 ?_
    refine k_cVi (pc := 12) (av := [.int 1]) zc3 rfl dX3_readsEnd_12 lk_X3_73 rfl (by decide) (by decide) (by decide) rfl rfl h (fun r1 f1 h => ?_)
    refine z_if_eq (pc := 15) (t := 22) dX3_readsEnd_15 (by decide) (fun c_15 => ?_) (fun c_15 => ?_)
    · replace h := h.1 c_15
      refine z_iconst (pc := 22) (v := 0) dX3_readsEnd_22 ic_0 ?_
      exact k_iret (pc := 23) hX dX3_readsEnd_23 rfl rfl h
    · replace h := h.2 c_15
      refine z_iconst (pc := 18) (v := 1) dX3_readsEnd_18 ic_1 ?_
      refine z_goto (pc := 19) (t := 23) dX3_readsEnd_19 (by decide) ?_
      exact k_iret (pc := 23) hX dX3_readsEnd_23 rfl rfl h
set_option maxRecDepth 20000 in
theorem w_X4_itemAt {f : zF} {K : Int32 → zF → Prop} {k : Nat} {p1 : Int32} (hk : isRow k) (h : ci mX6_itemOf [.ref (k + 1), .int p1] f (fun r1 f1 => K r1 f1)) : ci mX4_itemAt [.ref k, .int p1] f K := by
  refine ci_of (by decide) (Nat.le_of_ble_eq_true rfl) (fun X hX => ?_)
  refine z_aload_n (pc := 0) dX4_itemAt_0 rfl ?_
  refine k_getr (pc := 1) (j := 0) zc4 dX4_itemAt_1 fl_X4_9 (by decide) rfl (rw_lt hk) (rw_sh hk) (rw_rf1 hk) ?_
  refine z_iload_n (pc := 4) dX4_itemAt_4 rfl ?_
  refine k_cSi (pc := 5) (av := [.ref (k + 1), .int p1]) dX4_itemAt_5 lk_X4_22 rfl (by decide) (by decide) rfl h (fun r1 f1 h => ?_)
  exact k_iret (pc := 8) hX dX4_itemAt_8 rfl rfl h
set_option maxRecDepth 20000 in
theorem w_X4_store {f : zF} {K : zF → Prop} {k : Nat} {p1 : Int32} {p2 : Int32} (hk : isRow k) (h : (∀ z1 : Int32, z1 = (if (f k 1) = 0 then ((Int32.toInt8 p2).toInt32) else (if (f k 1) = 1 then ((Int32.toInt16 p2).toInt32) else p2)) → cv mX6_putItem [.ref (k + 1), .int p1, .int z1] f (fun f2 => K f2))) : cv mX4_store [.ref k, .int p1, .int p2] f K := by
  refine cv_of (by decide) (Nat.le_of_ble_eq_true rfl) (fun X hX => ?_)
  refine z_aload_n (pc := 0) dX4_store_0 rfl ?_
  refine k_getr (pc := 1) (j := 0) zc4 dX4_store_1 fl_X4_9 (by decide) rfl (rw_lt hk) (rw_sh hk) (rw_rf1 hk) ?_
  refine z_iload_n (pc := 4) dX4_store_4 rfl ?_
  refine z_aload_n (pc := 5) dX4_store_5 rfl ?_
  refine k_geti (pc := 6) (j := 1) zc4 dX4_store_6 fl_X4_15 (by decide) rfl (rw_lt hk) (rw_sh hk) (v := (f k 1)) rfl ?_
  suffices hm3 : Z X mX4_store 31 [(0, .ref k), (1, .int p1), (2, .int p2)] [.int (if (f k 1) = 0 then ((Int32.toInt8 p2).toInt32) else (if (f k 1) = 1 then ((Int32.toInt16 p2).toInt32) else p2)), .int p1, .ref (k + 1)] (zC f) by
    refine z_if_ne (pc := 9) (t := 17) dX4_store_9 (by decide) (fun c_9 => ?_) (fun c_9 => ?_)
    · rw [if_neg c_9] at hm3
      refine z_aload_n (pc := 17) dX4_store_17 rfl ?_
      refine k_geti (pc := 18) (j := 1) zc4 dX4_store_18 fl_X4_15 (by decide) rfl (rw_lt hk) (rw_sh hk) (v := (f k 1)) rfl ?_
      refine z_iconst (pc := 21) (v := 1) dX4_store_21 ic_1 ?_
      refine z_icmp_ne (pc := 22) (t := 30) dX4_store_22 (by decide) (fun c_22 => ?_) (fun c_22 => ?_)
      · rw [if_neg c_22] at hm3
        refine z_iload_n (pc := 30) dX4_store_30 rfl ?_
        exact hm3
      · rw [if_pos c_22] at hm3
        refine z_iload_n (pc := 25) dX4_store_25 rfl ?_
        refine z_i2s (pc := 26) dX4_store_26 ?_
        refine z_goto (pc := 27) (t := 31) dX4_store_27 (by decide) ?_
        exact hm3
    · rw [if_pos c_9] at hm3
      refine z_iload_n (pc := 12) dX4_store_12 rfl ?_
      refine z_i2b (pc := 13) dX4_store_13 ?_
      refine z_goto (pc := 14) (t := 31) dX4_store_14 (by decide) ?_
      exact hm3
  refine z_name (fun z1 e_z1 => ?_)
  replace h := h z1 e_z1
  refine k_cSv (pc := 31) (av := [.ref (k + 1), .int p1, .int z1]) dX4_store_31 lk_X4_26 rfl (by decide) (by decide) rfl h (fun f2 h => ?_)
  exact k_vret (pc := 34) hX dX4_store_34 rfl h
set_option maxRecDepth 20000 in
theorem w_X5_advance {f : zF} {K : zF → Prop}  (h : ∀ X, kR X (zRv K) → Z X mX5_advance 0 [(0, .ref 4)] [] (zC f)) : cv mX5_advance [.ref 4] f K := by
  refine cv_of (by decide) (Nat.le_of_ble_eq_true rfl) (fun X hX => ?_)
  replace h := h X hX
  exact h
set_option maxRecDepth 20000 in
theorem l_X5_advance_0 {X : zX} {f : zF} {K : zF → Prop}   (hX : kR X (zRv K)) (h : (((f 4 1) ≤ (f 4 4) → (((f 4 4) < (f 4 1) → ci mX6_itemOf [.ref 5, .int (f 4 4)] (zup f 4 3 (f 4 4)) (fun r101 f101 => ci mX5_sortOf [.int r101] f101 (fun r102 f102 => (∀ z103 : Int32, z103 = (if r102 = 1 then 1 else (if r102 = 2 then 1 else 0)) → Z X mX5_advance 118 [(0, .ref 4), (1, .int z103)] [] (zC (zup (zup f102 4 2 r102) 4 4 ((f102 4 4) + 1))))))) ∧ (¬ (f 4 4) < (f 4 1) → K (zup (zup f 4 3 (f 4 4)) 4 2 0)))) ∧ (¬ (f 4 1) ≤ (f 4 4) → ci mX6_itemOf [.ref 5, .int (f 4 4)] f (fun r105 f105 => ci mX5_sortOf [.int r105] f105 (fun r106 f106 => ((¬ r106 = 6 → (((f106 4 4) < (f106 4 1) → ci mX6_itemOf [.ref 5, .int (f106 4 4)] (zup f106 4 3 (f106 4 4)) (fun r107 f107 => ci mX5_sortOf [.int r107] f107 (fun r108 f108 => (∀ z109 : Int32, z109 = (if r108 = 1 then 1 else (if r108 = 2 then 1 else 0)) → Z X mX5_advance 118 [(0, .ref 4), (1, .int z109)] [] (zC (zup (zup f108 4 2 r108) 4 4 ((f108 4 4) + 1))))))) ∧ (¬ (f106 4 4) < (f106 4 1) → K (zup (zup f106 4 3 (f106 4 4)) 4 2 0)))) ∧ (r106 = 6 → Z X mX5_advance 0 [(0, .ref 4)] [] (zC (zup f106 4 4 ((f106 4 4) + 1)))))))))) : Z X mX5_advance 0 [(0, .ref 4)] [] (zC f) := by
  refine z_aload_n (pc := 0) dX5_advance_0 rfl ?_
  refine k_geti (pc := 1) (j := 4) zc5 dX5_advance_1 fl_X5_25 (by decide) rfl (by decide) rfl (v := (f 4 4)) rfl ?_
  refine z_aload_n (pc := 4) dX5_advance_4 rfl ?_
  refine k_geti (pc := 5) (j := 1) zc5 dX5_advance_5 fl_X5_15 (by decide) rfl (by decide) rfl (v := (f 4 1)) rfl ?_
  refine z_icmp_ge (pc := 8) (t := 43) dX5_advance_8 (by decide) (fun c_8 => ?_) (fun c_8 => ?_)
  · replace h := h.1 c_8
    refine z_aload_n (pc := 43) dX5_advance_43 rfl ?_
    refine z_aload_n (pc := 44) dX5_advance_44 rfl ?_
    refine k_geti (pc := 45) (j := 4) zc5 dX5_advance_45 fl_X5_25 (by decide) rfl (by decide) rfl (v := (f 4 4)) rfl ?_
    refine k_puti (pc := 48) (j := 3) zc5 dX5_advance_48 fl_X5_39 (by decide) rfl rfl rfl (by decide) rfl ?_
    refine z_aload_n (pc := 51) dX5_advance_51 rfl ?_
    refine k_geti (pc := 52) (j := 4) zc5 dX5_advance_52 fl_X5_25 (by decide) rfl (by decide) rfl (v := (f 4 4)) rfl ?_
    refine z_aload_n (pc := 55) dX5_advance_55 rfl ?_
    refine k_geti (pc := 56) (j := 1) zc5 dX5_advance_56 fl_X5_15 (by decide) rfl (by decide) rfl (v := (f 4 1)) rfl ?_
    refine z_icmp_lt (pc := 59) (t := 68) dX5_advance_59 (by decide) (fun c_59 => ?_) (fun c_59 => ?_)
    · replace h := h.1 c_59
      refine z_aload_n (pc := 68) dX5_advance_68 rfl ?_
      refine z_aload_n (pc := 69) dX5_advance_69 rfl ?_
      refine k_getr (pc := 70) (j := 0) zc5 dX5_advance_70 fl_X5_9 (by decide) rfl (by decide) rfl (k2 := 5) rfl ?_
      refine z_aload_n (pc := 73) dX5_advance_73 rfl ?_
      refine k_geti (pc := 74) (j := 4) zc5 dX5_advance_74 fl_X5_25 (by decide) rfl (by decide) rfl (v := (f 4 4)) rfl ?_
      refine k_cSi (pc := 77) (av := [.ref 5, .int (f 4 4)]) dX5_advance_77 lk_X5_31 rfl (by decide) (by decide) rfl h (fun r101 f101 h => ?_)
      refine k_cSi (pc := 80) (av := [.int r101]) dX5_advance_80 lk_X5_35 rfl (by decide) (by decide) rfl h (fun r102 f102 h => ?_)
      refine k_puti (pc := 83) (j := 2) zc5 dX5_advance_83 fl_X5_42 (by decide) rfl rfl rfl (by decide) rfl ?_
      refine z_aload_n (pc := 86) dX5_advance_86 rfl ?_
      refine z_dup (pc := 87) dX5_advance_87 rfl ?_
      refine k_geti (pc := 88) (j := 4) zc5 dX5_advance_88 fl_X5_25 (by decide) rfl (by decide) rfl (v := (f102 4 4)) rfl ?_
      refine z_iconst (pc := 91) (v := 1) dX5_advance_91 ic_1 ?_
      refine z_iadd (pc := 92) dX5_advance_92 ?_
      refine k_puti (pc := 93) (j := 4) zc5 dX5_advance_93 fl_X5_25 (by decide) rfl rfl rfl (by decide) rfl ?_
      refine z_aload_n (pc := 96) dX5_advance_96 rfl ?_
      refine k_geti (pc := 97) (j := 2) zc5 dX5_advance_97 fl_X5_42 (by decide) rfl (by decide) rfl (v := r102) rfl ?_
      refine z_iconst (pc := 100) (v := 1) dX5_advance_100 ic_1 ?_
      suffices hm104 : Z X mX5_advance 117 [(0, .ref 4)] [.int (if r102 = 1 then 1 else (if r102 = 2 then 1 else 0))] (zC (zup (zup f102 4 2 r102) 4 4 ((f102 4 4) + 1))) by
        refine z_icmp_eq (pc := 101) (t := 112) dX5_advance_101 (by decide) (fun c_101 => ?_) (fun c_101 => ?_)
        · rw [if_pos c_101] at hm104
          refine z_iconst (pc := 112) (v := 1) dX5_advance_112 ic_1 ?_
          refine z_goto (pc := 113) (t := 117) dX5_advance_113 (by decide) ?_
          exact hm104
        · rw [if_neg c_101] at hm104
          refine z_aload_n (pc := 104) dX5_advance_104 rfl ?_
          refine k_geti (pc := 105) (j := 2) zc5 dX5_advance_105 fl_X5_42 (by decide) rfl (by decide) rfl (v := r102) rfl ?_
          refine z_iconst (pc := 108) (v := 2) dX5_advance_108 ic_2 ?_
          refine z_icmp_ne (pc := 109) (t := 116) dX5_advance_109 (by decide) (fun c_109 => ?_) (fun c_109 => ?_)
          · rw [if_neg c_109] at hm104
            refine z_iconst (pc := 116) (v := 0) dX5_advance_116 ic_0 ?_
            exact hm104
          · rw [if_pos c_109] at hm104
            refine z_iconst (pc := 112) (v := 1) dX5_advance_112 ic_1 ?_
            refine z_goto (pc := 113) (t := 117) dX5_advance_113 (by decide) ?_
            exact hm104
      refine z_name (fun z103 e_z103 => ?_)
      replace h := h z103 e_z103
      refine z_istore_n (pc := 117) (lv' := [(1, .int z103), (0, .ref 4)]) dX5_advance_117 (Nat.le_of_ble_eq_true rfl) rfl ?_
      exact z_sub [1, 0] rfl h
    · replace h := h.2 c_59
      refine z_aload_n (pc := 62) dX5_advance_62 rfl ?_
      refine z_iconst (pc := 63) (v := 0) dX5_advance_63 ic_0 ?_
      refine k_puti (pc := 64) (j := 2) zc5 dX5_advance_64 fl_X5_42 (by decide) rfl rfl rfl (by decide) rfl ?_
      exact k_vret (pc := 67) hX dX5_advance_67 rfl h
  · replace h := h.2 c_8
    refine z_aload_n (pc := 11) dX5_advance_11 rfl ?_
    refine k_getr (pc := 12) (j := 0) zc5 dX5_advance_12 fl_X5_9 (by decide) rfl (by decide) rfl (k2 := 5) rfl ?_
    refine z_aload_n (pc := 15) dX5_advance_15 rfl ?_
    refine k_geti (pc := 16) (j := 4) zc5 dX5_advance_16 fl_X5_25 (by decide) rfl (by decide) rfl (v := (f 4 4)) rfl ?_
    refine k_cSi (pc := 19) (av := [.ref 5, .int (f 4 4)]) dX5_advance_19 lk_X5_31 rfl (by decide) (by decide) rfl h (fun r105 f105 h => ?_)
    refine k_cSi (pc := 22) (av := [.int r105]) dX5_advance_22 lk_X5_35 rfl (by decide) (by decide) rfl h (fun r106 f106 h => ?_)
    refine z_bipush (pc := 25) (v := 6) dX5_advance_25 bi_6 ?_
    refine z_icmp_ne (pc := 27) (t := 43) dX5_advance_27 (by decide) (fun c_27 => ?_) (fun c_27 => ?_)
    · replace h := h.1 c_27
      refine z_aload_n (pc := 43) dX5_advance_43 rfl ?_
      refine z_aload_n (pc := 44) dX5_advance_44 rfl ?_
      refine k_geti (pc := 45) (j := 4) zc5 dX5_advance_45 fl_X5_25 (by decide) rfl (by decide) rfl (v := (f106 4 4)) rfl ?_
      refine k_puti (pc := 48) (j := 3) zc5 dX5_advance_48 fl_X5_39 (by decide) rfl rfl rfl (by decide) rfl ?_
      refine z_aload_n (pc := 51) dX5_advance_51 rfl ?_
      refine k_geti (pc := 52) (j := 4) zc5 dX5_advance_52 fl_X5_25 (by decide) rfl (by decide) rfl (v := (f106 4 4)) rfl ?_
      refine z_aload_n (pc := 55) dX5_advance_55 rfl ?_
      refine k_geti (pc := 56) (j := 1) zc5 dX5_advance_56 fl_X5_15 (by decide) rfl (by decide) rfl (v := (f106 4 1)) rfl ?_
      refine z_icmp_lt (pc := 59) (t := 68) dX5_advance_59 (by decide) (fun c_59 => ?_) (fun c_59 => ?_)
      · replace h := h.1 c_59
        refine z_aload_n (pc := 68) dX5_advance_68 rfl ?_
        refine z_aload_n (pc := 69) dX5_advance_69 rfl ?_
        refine k_getr (pc := 70) (j := 0) zc5 dX5_advance_70 fl_X5_9 (by decide) rfl (by decide) rfl (k2 := 5) rfl ?_
        refine z_aload_n (pc := 73) dX5_advance_73 rfl ?_
        refine k_geti (pc := 74) (j := 4) zc5 dX5_advance_74 fl_X5_25 (by decide) rfl (by decide) rfl (v := (f106 4 4)) rfl ?_
        refine k_cSi (pc := 77) (av := [.ref 5, .int (f106 4 4)]) dX5_advance_77 lk_X5_31 rfl (by decide) (by decide) rfl h (fun r107 f107 h => ?_)
        refine k_cSi (pc := 80) (av := [.int r107]) dX5_advance_80 lk_X5_35 rfl (by decide) (by decide) rfl h (fun r108 f108 h => ?_)
        refine k_puti (pc := 83) (j := 2) zc5 dX5_advance_83 fl_X5_42 (by decide) rfl rfl rfl (by decide) rfl ?_
        refine z_aload_n (pc := 86) dX5_advance_86 rfl ?_
        refine z_dup (pc := 87) dX5_advance_87 rfl ?_
        refine k_geti (pc := 88) (j := 4) zc5 dX5_advance_88 fl_X5_25 (by decide) rfl (by decide) rfl (v := (f108 4 4)) rfl ?_
        refine z_iconst (pc := 91) (v := 1) dX5_advance_91 ic_1 ?_
        refine z_iadd (pc := 92) dX5_advance_92 ?_
        refine k_puti (pc := 93) (j := 4) zc5 dX5_advance_93 fl_X5_25 (by decide) rfl rfl rfl (by decide) rfl ?_
        refine z_aload_n (pc := 96) dX5_advance_96 rfl ?_
        refine k_geti (pc := 97) (j := 2) zc5 dX5_advance_97 fl_X5_42 (by decide) rfl (by decide) rfl (v := r108) rfl ?_
        refine z_iconst (pc := 100) (v := 1) dX5_advance_100 ic_1 ?_
        suffices hm110 : Z X mX5_advance 117 [(0, .ref 4)] [.int (if r108 = 1 then 1 else (if r108 = 2 then 1 else 0))] (zC (zup (zup f108 4 2 r108) 4 4 ((f108 4 4) + 1))) by
          refine z_icmp_eq (pc := 101) (t := 112) dX5_advance_101 (by decide) (fun c_101 => ?_) (fun c_101 => ?_)
          · rw [if_pos c_101] at hm110
            refine z_iconst (pc := 112) (v := 1) dX5_advance_112 ic_1 ?_
            refine z_goto (pc := 113) (t := 117) dX5_advance_113 (by decide) ?_
            exact hm110
          · rw [if_neg c_101] at hm110
            refine z_aload_n (pc := 104) dX5_advance_104 rfl ?_
            refine k_geti (pc := 105) (j := 2) zc5 dX5_advance_105 fl_X5_42 (by decide) rfl (by decide) rfl (v := r108) rfl ?_
            refine z_iconst (pc := 108) (v := 2) dX5_advance_108 ic_2 ?_
            refine z_icmp_ne (pc := 109) (t := 116) dX5_advance_109 (by decide) (fun c_109 => ?_) (fun c_109 => ?_)
            · rw [if_neg c_109] at hm110
              refine z_iconst (pc := 116) (v := 0) dX5_advance_116 ic_0 ?_
              exact hm110
            · rw [if_pos c_109] at hm110
              refine z_iconst (pc := 112) (v := 1) dX5_advance_112 ic_1 ?_
              refine z_goto (pc := 113) (t := 117) dX5_advance_113 (by decide) ?_
              exact hm110
        refine z_name (fun z109 e_z109 => ?_)
        replace h := h z109 e_z109
        refine z_istore_n (pc := 117) (lv' := [(1, .int z109), (0, .ref 4)]) dX5_advance_117 (Nat.le_of_ble_eq_true rfl) rfl ?_
        exact z_sub [1, 0] rfl h
      · replace h := h.2 c_59
        refine z_aload_n (pc := 62) dX5_advance_62 rfl ?_
        refine z_iconst (pc := 63) (v := 0) dX5_advance_63 ic_0 ?_
        refine k_puti (pc := 64) (j := 2) zc5 dX5_advance_64 fl_X5_42 (by decide) rfl rfl rfl (by decide) rfl ?_
        exact k_vret (pc := 67) hX dX5_advance_67 rfl h
    · replace h := h.2 c_27
      refine z_aload_n (pc := 30) dX5_advance_30 rfl ?_
      refine z_dup (pc := 31) dX5_advance_31 rfl ?_
      refine k_geti (pc := 32) (j := 4) zc5 dX5_advance_32 fl_X5_25 (by decide) rfl (by decide) rfl (v := (f106 4 4)) rfl ?_
      refine z_iconst (pc := 35) (v := 1) dX5_advance_35 ic_1 ?_
      refine z_iadd (pc := 36) dX5_advance_36 ?_
      refine k_puti (pc := 37) (j := 4) zc5 dX5_advance_37 fl_X5_25 (by decide) rfl rfl rfl (by decide) rfl ?_
      refine z_goto (pc := 40) (t := 0) dX5_advance_40 (by decide) ?_
      exact h
set_option maxRecDepth 20000 in
theorem l_X5_advance_118 {X : zX} {f : zF} {K : zF → Prop}  {x1 : Int32}  (hX : kR X (zRv K)) (h : ((x1 = 0 → ((¬ (f 4 2) = 2 → K f) ∧ ((f 4 2) = 2 → ((((f 4 4) - (f 4 3)) ≤ 3 → K f) ∧ (¬ ((f 4 4) - (f 4 3)) ≤ 3 → K (zup f 4 2 5)))))) ∧ (¬ x1 = 0 → (((f 4 1) ≤ (f 4 4) → ((¬ (f 4 2) = 2 → K f) ∧ ((f 4 2) = 2 → ((((f 4 4) - (f 4 3)) ≤ 3 → K f) ∧ (¬ ((f 4 4) - (f 4 3)) ≤ 3 → K (zup f 4 2 5)))))) ∧ (¬ (f 4 1) ≤ (f 4 4) → ci mX6_itemOf [.ref 5, .int (f 4 4)] f (fun r211 f211 => ci mX5_sortOf [.int r211] f211 (fun r212 f212 => ((¬ r212 = (f212 4 2) → ((¬ (f212 4 2) = 2 → K f212) ∧ ((f212 4 2) = 2 → ((((f212 4 4) - (f212 4 3)) ≤ 3 → K f212) ∧ (¬ ((f212 4 4) - (f212 4 3)) ≤ 3 → K (zup f212 4 2 5)))))) ∧ (r212 = (f212 4 2) → Z X mX5_advance 118 [(0, .ref 4), (1, .int x1)] [] (zC (zup f212 4 4 ((f212 4 4) + 1)))))))))))) : Z X mX5_advance 118 [(0, .ref 4), (1, .int x1)] [] (zC f) := by
  refine z_iload_n (pc := 118) dX5_advance_118 rfl ?_
  refine z_if_eq (pc := 119) (t := 167) dX5_advance_119 (by decide) (fun c_119 => ?_) (fun c_119 => ?_)
  · replace h := h.1 c_119
    refine z_aload_n (pc := 167) dX5_advance_167 rfl ?_
    refine k_geti (pc := 168) (j := 2) zc5 dX5_advance_168 fl_X5_42 (by decide) rfl (by decide) rfl (v := (f 4 2)) rfl ?_
    refine z_iconst (pc := 171) (v := 2) dX5_advance_171 ic_2 ?_
    refine z_icmp_ne (pc := 172) (t := 193) dX5_advance_172 (by decide) (fun c_172 => ?_) (fun c_172 => ?_)
    · replace h := h.1 c_172
      exact k_vret (pc := 193) hX dX5_advance_193 rfl h
    · replace h := h.2 c_172
      refine z_aload_n (pc := 175) dX5_advance_175 rfl ?_
      refine k_geti (pc := 176) (j := 4) zc5 dX5_advance_176 fl_X5_25 (by decide) rfl (by decide) rfl (v := (f 4 4)) rfl ?_
      refine z_aload_n (pc := 179) dX5_advance_179 rfl ?_
      refine k_geti (pc := 180) (j := 3) zc5 dX5_advance_180 fl_X5_39 (by decide) rfl (by decide) rfl (v := (f 4 3)) rfl ?_
      refine z_isub (pc := 183) dX5_advance_183 ?_
      refine z_iconst (pc := 184) (v := 3) dX5_advance_184 ic_3 ?_
      refine z_icmp_le (pc := 185) (t := 193) dX5_advance_185 (by decide) (fun c_185 => ?_) (fun c_185 => ?_)
      · replace h := h.1 c_185
        exact k_vret (pc := 193) hX dX5_advance_193 rfl h
      · replace h := h.2 c_185
        refine z_aload_n (pc := 188) dX5_advance_188 rfl ?_
        refine z_iconst (pc := 189) (v := 5) dX5_advance_189 ic_5 ?_
        refine k_puti (pc := 190) (j := 2) zc5 dX5_advance_190 fl_X5_42 (by decide) rfl rfl rfl (by decide) rfl ?_
        exact k_vret (pc := 193) hX dX5_advance_193 rfl h
  · replace h := h.2 c_119
    refine z_aload_n (pc := 122) dX5_advance_122 rfl ?_
    refine k_geti (pc := 123) (j := 4) zc5 dX5_advance_123 fl_X5_25 (by decide) rfl (by decide) rfl (v := (f 4 4)) rfl ?_
    refine z_aload_n (pc := 126) dX5_advance_126 rfl ?_
    refine k_geti (pc := 127) (j := 1) zc5 dX5_advance_127 fl_X5_15 (by decide) rfl (by decide) rfl (v := (f 4 1)) rfl ?_
    refine z_icmp_ge (pc := 130) (t := 167) dX5_advance_130 (by decide) (fun c_130 => ?_) (fun c_130 => ?_)
    · replace h := h.1 c_130
      refine z_aload_n (pc := 167) dX5_advance_167 rfl ?_
      refine k_geti (pc := 168) (j := 2) zc5 dX5_advance_168 fl_X5_42 (by decide) rfl (by decide) rfl (v := (f 4 2)) rfl ?_
      refine z_iconst (pc := 171) (v := 2) dX5_advance_171 ic_2 ?_
      refine z_icmp_ne (pc := 172) (t := 193) dX5_advance_172 (by decide) (fun c_172 => ?_) (fun c_172 => ?_)
      · replace h := h.1 c_172
        exact k_vret (pc := 193) hX dX5_advance_193 rfl h
      · replace h := h.2 c_172
        refine z_aload_n (pc := 175) dX5_advance_175 rfl ?_
        refine k_geti (pc := 176) (j := 4) zc5 dX5_advance_176 fl_X5_25 (by decide) rfl (by decide) rfl (v := (f 4 4)) rfl ?_
        refine z_aload_n (pc := 179) dX5_advance_179 rfl ?_
        refine k_geti (pc := 180) (j := 3) zc5 dX5_advance_180 fl_X5_39 (by decide) rfl (by decide) rfl (v := (f 4 3)) rfl ?_
        refine z_isub (pc := 183) dX5_advance_183 ?_
        refine z_iconst (pc := 184) (v := 3) dX5_advance_184 ic_3 ?_
        refine z_icmp_le (pc := 185) (t := 193) dX5_advance_185 (by decide) (fun c_185 => ?_) (fun c_185 => ?_)
        · replace h := h.1 c_185
          exact k_vret (pc := 193) hX dX5_advance_193 rfl h
        · replace h := h.2 c_185
          refine z_aload_n (pc := 188) dX5_advance_188 rfl ?_
          refine z_iconst (pc := 189) (v := 5) dX5_advance_189 ic_5 ?_
          refine k_puti (pc := 190) (j := 2) zc5 dX5_advance_190 fl_X5_42 (by decide) rfl rfl rfl (by decide) rfl ?_
          exact k_vret (pc := 193) hX dX5_advance_193 rfl h
    · replace h := h.2 c_130
      refine z_aload_n (pc := 133) dX5_advance_133 rfl ?_
      refine k_getr (pc := 134) (j := 0) zc5 dX5_advance_134 fl_X5_9 (by decide) rfl (by decide) rfl (k2 := 5) rfl ?_
      refine z_aload_n (pc := 137) dX5_advance_137 rfl ?_
      refine k_geti (pc := 138) (j := 4) zc5 dX5_advance_138 fl_X5_25 (by decide) rfl (by decide) rfl (v := (f 4 4)) rfl ?_
      refine k_cSi (pc := 141) (av := [.ref 5, .int (f 4 4)]) dX5_advance_141 lk_X5_31 rfl (by decide) (by decide) rfl h (fun r211 f211 h => ?_)
      refine k_cSi (pc := 144) (av := [.int r211]) dX5_advance_144 lk_X5_35 rfl (by decide) (by decide) rfl h (fun r212 f212 h => ?_)
      refine z_aload_n (pc := 147) dX5_advance_147 rfl ?_
      refine k_geti (pc := 148) (j := 2) zc5 dX5_advance_148 fl_X5_42 (by decide) rfl (by decide) rfl (v := (f212 4 2)) rfl ?_
      refine z_icmp_ne (pc := 151) (t := 167) dX5_advance_151 (by decide) (fun c_151 => ?_) (fun c_151 => ?_)
      · replace h := h.1 c_151
        refine z_aload_n (pc := 167) dX5_advance_167 rfl ?_
        refine k_geti (pc := 168) (j := 2) zc5 dX5_advance_168 fl_X5_42 (by decide) rfl (by decide) rfl (v := (f212 4 2)) rfl ?_
        refine z_iconst (pc := 171) (v := 2) dX5_advance_171 ic_2 ?_
        refine z_icmp_ne (pc := 172) (t := 193) dX5_advance_172 (by decide) (fun c_172 => ?_) (fun c_172 => ?_)
        · replace h := h.1 c_172
          exact k_vret (pc := 193) hX dX5_advance_193 rfl h
        · replace h := h.2 c_172
          refine z_aload_n (pc := 175) dX5_advance_175 rfl ?_
          refine k_geti (pc := 176) (j := 4) zc5 dX5_advance_176 fl_X5_25 (by decide) rfl (by decide) rfl (v := (f212 4 4)) rfl ?_
          refine z_aload_n (pc := 179) dX5_advance_179 rfl ?_
          refine k_geti (pc := 180) (j := 3) zc5 dX5_advance_180 fl_X5_39 (by decide) rfl (by decide) rfl (v := (f212 4 3)) rfl ?_
          refine z_isub (pc := 183) dX5_advance_183 ?_
          refine z_iconst (pc := 184) (v := 3) dX5_advance_184 ic_3 ?_
          refine z_icmp_le (pc := 185) (t := 193) dX5_advance_185 (by decide) (fun c_185 => ?_) (fun c_185 => ?_)
          · replace h := h.1 c_185
            exact k_vret (pc := 193) hX dX5_advance_193 rfl h
          · replace h := h.2 c_185
            refine z_aload_n (pc := 188) dX5_advance_188 rfl ?_
            refine z_iconst (pc := 189) (v := 5) dX5_advance_189 ic_5 ?_
            refine k_puti (pc := 190) (j := 2) zc5 dX5_advance_190 fl_X5_42 (by decide) rfl rfl rfl (by decide) rfl ?_
            exact k_vret (pc := 193) hX dX5_advance_193 rfl h
      · replace h := h.2 c_151
        refine z_aload_n (pc := 154) dX5_advance_154 rfl ?_
        refine z_dup (pc := 155) dX5_advance_155 rfl ?_
        refine k_geti (pc := 156) (j := 4) zc5 dX5_advance_156 fl_X5_25 (by decide) rfl (by decide) rfl (v := (f212 4 4)) rfl ?_
        refine z_iconst (pc := 159) (v := 1) dX5_advance_159 ic_1 ?_
        refine z_iadd (pc := 160) dX5_advance_160 ?_
        refine k_puti (pc := 161) (j := 4) zc5 dX5_advance_161 fl_X5_25 (by decide) rfl rfl rfl (by decide) rfl ?_
        refine z_goto (pc := 164) (t := 118) dX5_advance_164 (by decide) ?_
        exact h
set_option maxRecDepth 20000 in
theorem w_X5_append {f : zF} {K : Int32 → zF → Prop} {p1 : Int64} {p2 : Int32} (h : ∀ X, kR X (zRi K) → ((p2 ≤ (400 - (f 4 1)) → Z X mX5_append 19 [(0, .ref 4), (1, .long p1), (3, .int p2), (4, .int (p2 - 1))] [] (zC f)) ∧ (¬ p2 ≤ (400 - (f 4 1)) → K 0 f))) : ci mX5_append [.ref 4, .long p1, .int p2] f K := by
  refine ci_of (by decide) (Nat.le_of_ble_eq_true rfl) (fun X hX => ?_)
  replace h := h X hX
  refine z_iload_n (pc := 0) dX5_append_0 rfl ?_
  refine z_sipush (pc := 1) (v := 400) dX5_append_1 si_400 ?_
  refine z_aload_n (pc := 4) dX5_append_4 rfl ?_
  refine k_geti (pc := 5) (j := 1) zc5 dX5_append_5 fl_X5_15 (by decide) rfl (by decide) rfl (v := (f 4 1)) rfl ?_
  refine z_isub (pc := 8) dX5_append_8 ?_
  refine z_icmp_le (pc := 9) (t := 14) dX5_append_9 (by decide) (fun c_9 => ?_) (fun c_9 => ?_)
  · replace h := h.1 c_9
    refine z_iload_n (pc := 14) dX5_append_14 rfl ?_
    refine z_iconst (pc := 15) (v := 1) dX5_append_15 ic_1 ?_
    refine z_isub (pc := 16) dX5_append_16 ?_
    refine z_istore (pc := 17) (lv' := [(4, .int (p2 - 1)), (0, .ref 4), (1, .long p1), (3, .int p2)]) dX5_append_17 (Nat.le_of_ble_eq_true rfl) rfl ?_
    exact z_sub [1, 2, 3, 0] rfl h
  · replace h := h.2 c_9
    refine z_iconst (pc := 12) (v := 0) dX5_append_12 ic_0 ?_
    exact k_iret (pc := 13) hX dX5_append_13 rfl rfl h
set_option maxRecDepth 20000 in
theorem l_X5_append_19 {X : zX} {f : zF} {K : Int32 → zF → Prop}  {x3 x4 : Int32} {y1 : Int64}  (hX : kR X (zRi K)) (h : ((x4 < 0 → K 1 f) ∧ (¬ x4 < 0 → (∀ z101 : Int32, z101 = (Int64.toInt32 ((y1 >>> (Int32.toInt64 (8 * x4) &&& 63)) &&& 255)) → cv mX6_putItem [.ref 5, .int (f 4 1), .int z101] f (fun f102 => Z X mX5_append 19 [(0, .ref 4), (1, .long y1), (3, .int x3), (4, .int (x4 + (-1)))] [] (zC (zup f102 4 1 ((f102 4 1) + 1)))))))) : Z X mX5_append 19 [(0, .ref 4), (1, .long y1), (3, .int x3), (4, .int x4)] [] (zC f) := by
  refine z_iload (pc := 19) dX5_append_19 rfl ?_
  refine z_if_lt (pc := 21) (t := 63) dX5_append_21 (by decide) (fun c_21 => ?_) (fun c_21 => ?_)
  · replace h := h.1 c_21
    refine z_iconst (pc := 63) (v := 1) dX5_append_63 ic_1 ?_
    exact k_iret (pc := 64) hX dX5_append_64 rfl rfl h
  · replace h := h.2 c_21
    refine z_aload_n (pc := 24) dX5_append_24 rfl ?_
    refine k_getr (pc := 25) (j := 0) zc5 dX5_append_25 fl_X5_9 (by decide) rfl (by decide) rfl (k2 := 5) rfl ?_
    refine z_aload_n (pc := 28) dX5_append_28 rfl ?_
    refine k_geti (pc := 29) (j := 1) zc5 dX5_append_29 fl_X5_15 (by decide) rfl (by decide) rfl (v := (f 4 1)) rfl ?_
    refine z_lload_n (pc := 32) dX5_append_32 rfl ?_
    refine z_bipush (pc := 33) (v := 8) dX5_append_33 bi_8 ?_
    refine z_iload (pc := 35) dX5_append_35 rfl ?_
    refine z_imul (pc := 37) dX5_append_37 ?_
    refine z_lshr (pc := 38) dX5_append_38 ?_
    refine z_ldc2 (pc := 39) (v := 255) dX5_append_39 co_X5_19 ?_
    refine z_land (pc := 42) dX5_append_42 ?_
    refine z_l2i (pc := 43) dX5_append_43 ?_
    refine z_name (fun z101 e_z101 => ?_)
    replace h := h z101 e_z101
    refine k_cSv (pc := 44) (av := [.ref 5, .int (f 4 1), .int z101]) dX5_append_44 lk_X5_21 rfl (by decide) (by decide) rfl h (fun f102 h => ?_)
    refine z_aload_n (pc := 47) dX5_append_47 rfl ?_
    refine z_dup (pc := 48) dX5_append_48 rfl ?_
    refine k_geti (pc := 49) (j := 1) zc5 dX5_append_49 fl_X5_15 (by decide) rfl (by decide) rfl (v := (f102 4 1)) rfl ?_
    refine z_iconst (pc := 52) (v := 1) dX5_append_52 ic_1 ?_
    refine z_iadd (pc := 53) dX5_append_53 ?_
    refine k_puti (pc := 54) (j := 1) zc5 dX5_append_54 fl_X5_15 (by decide) rfl rfl rfl (by decide) rfl ?_
    refine z_iinc (pc := 57) (v := (x4 + (-1))) (lv' := [(4, .int (x4 + (-1))), (0, .ref 4), (1, .long y1), (3, .int x3)]) dX5_append_57 rfl (congrArg (fun z => x4 + z) ic_m1) (Nat.le_of_ble_eq_true rfl) rfl ?_
    refine z_goto (pc := 60) (t := 19) dX5_append_60 (by decide) ?_
    exact z_sub [1, 2, 3, 0] rfl h
set_option maxRecDepth 20000 in
theorem w_X5_numberTold {f : zF} {K : Int32 → zF → Prop}  (h : ∀ X, kR X (zRi K) → Z X mX5_numberTold 7 [(0, .ref 4), (1, .int 0), (2, .int (f 4 3))] [] (zC f)) : ci mX5_numberTold [.ref 4] f K := by
  refine ci_of (by decide) (Nat.le_of_ble_eq_true rfl) (fun X hX => ?_)
  replace h := h X hX
  refine z_iconst (pc := 0) (v := 0) dX5_numberTold_0 ic_0 ?_
  refine z_istore_n (pc := 1) (lv' := [(1, .int 0), (0, .ref 4)]) dX5_numberTold_1 (Nat.le_of_ble_eq_true rfl) rfl ?_
  refine z_aload_n (pc := 2) dX5_numberTold_2 rfl ?_
  refine k_geti (pc := 3) (j := 3) zc5 dX5_numberTold_3 fl_X5_39 (by decide) rfl (by decide) rfl (v := (f 4 3)) rfl ?_
  refine z_istore_n (pc := 6) (lv' := [(2, .int (f 4 3)), (1, .int 0), (0, .ref 4)]) dX5_numberTold_6 (Nat.le_of_ble_eq_true rfl) rfl ?_
  exact z_sub [2, 1, 0] rfl h
set_option maxRecDepth 20000 in
theorem l_X5_numberTold_7 {X : zX} {f : zF} {K : Int32 → zF → Prop}  {x1 x2 : Int32}  (hX : kR X (zRi K)) (h : (((f 4 4) ≤ x2 → K x1 f) ∧ (¬ (f 4 4) ≤ x2 → ci mX6_itemOf [.ref 5, .int x2] f (fun r101 f101 => Z X mX5_numberTold 7 [(0, .ref 4), (1, .int (((10 * x1) + r101) - 48)), (2, .int (x2 + 1))] [] (zC f101))))) : Z X mX5_numberTold 7 [(0, .ref 4), (1, .int x1), (2, .int x2)] [] (zC f) := by
  refine z_iload_n (pc := 7) dX5_numberTold_7 rfl ?_
  refine z_aload_n (pc := 8) dX5_numberTold_8 rfl ?_
  refine k_geti (pc := 9) (j := 4) zc5 dX5_numberTold_9 fl_X5_25 (by decide) rfl (by decide) rfl (v := (f 4 4)) rfl ?_
  refine z_icmp_ge (pc := 12) (t := 38) dX5_numberTold_12 (by decide) (fun c_12 => ?_) (fun c_12 => ?_)
  · replace h := h.1 c_12
    refine z_iload_n (pc := 38) dX5_numberTold_38 rfl ?_
    exact k_iret (pc := 39) hX dX5_numberTold_39 rfl rfl h
  · replace h := h.2 c_12
    refine z_bipush (pc := 15) (v := 10) dX5_numberTold_15 bi_10 ?_
    refine z_iload_n (pc := 17) dX5_numberTold_17 rfl ?_
    refine z_imul (pc := 18) dX5_numberTold_18 ?_
    refine z_aload_n (pc := 19) dX5_numberTold_19 rfl ?_
    refine k_getr (pc := 20) (j := 0) zc5 dX5_numberTold_20 fl_X5_9 (by decide) rfl (by decide) rfl (k2 := 5) rfl ?_
    refine z_iload_n (pc := 23) dX5_numberTold_23 rfl ?_
    refine k_cSi (pc := 24) (av := [.ref 5, .int x2]) dX5_numberTold_24 lk_X5_31 rfl (by decide) (by decide) rfl h (fun r101 f101 h => ?_)
    refine z_iadd (pc := 27) dX5_numberTold_27 ?_
    refine z_bipush (pc := 28) (v := 48) dX5_numberTold_28 bi_48 ?_
    refine z_isub (pc := 30) dX5_numberTold_30 ?_
    refine z_istore_n (pc := 31) (lv' := [(1, .int (((10 * x1) + r101) - 48)), (0, .ref 4), (2, .int x2)]) dX5_numberTold_31 (Nat.le_of_ble_eq_true rfl) rfl ?_
    refine z_iinc (pc := 32) (v := (x2 + 1)) (lv' := [(2, .int (x2 + 1)), (1, .int (((10 * x1) + r101) - 48)), (0, .ref 4)]) dX5_numberTold_32 rfl (congrArg (fun z => x2 + z) ic_1) (Nat.le_of_ble_eq_true rfl) rfl ?_
    refine z_goto (pc := 35) (t := 7) dX5_numberTold_35 (by decide) ?_
    exact z_sub [2, 1, 0] rfl h
set_option maxRecDepth 20000 in
theorem w_X6_copyItems {f : zF} {K : zF → Prop} {q0 n0 : Nat} {p2 : Int32} {q2 n2 : Nat} {p4 : Int32} {p5 : Int32} (hq0 : q0 < 63) (hs0 : zSH q0 = (8, n0)) (hq2 : q2 < 63) (hs2 : zSH q2 = (8, n2)) (h : ((p2 < 0 → K f) ∧ (¬ p2 < 0 → ((p4 < 0 → K f) ∧ (¬ p4 < 0 → ((0 ≤ p5 → ((((nI n0) - p2) < p5 → K f) ∧ (¬ ((nI n0) - p2) < p5 → ((((nI n2) - p4) < p5 → K f) ∧ (¬ ((nI n2) - p4) < p5 → ((¬ p2 < 0 ∧ ¬ p4 < 0 ∧ ¬ p5 < 0 ∧ Int32.toNatClampNeg p2 + Int32.toNatClampNeg p5 ≤ n0 ∧ Int32.toNatClampNeg p4 + Int32.toNatClampNeg p5 ≤ n2) ∧ K (zcpyF f q0 q2 (Int32.toNatClampNeg p2) (Int32.toNatClampNeg p4) (Int32.toNatClampNeg p5)))))))) ∧ (¬ 0 ≤ p5 → K f))))))) : cv mX6_copyItems [.ref q0, .int p2, .ref q2, .int p4, .int p5] f K := by
  refine cv_of (by decide) (Nat.le_of_ble_eq_true rfl) (fun X hX => ?_)
  refine z_aload_n (pc := 0) dX6_copyItems_0 rfl ?_
  refine z_ifnull (pc := 1) dX6_copyItems_1 ?_
  refine z_aload_n (pc := 4) dX6_copyItems_4 rfl ?_
  refine z_ifnull (pc := 5) dX6_copyItems_5 ?_
  refine z_iload_n (pc := 8) dX6_copyItems_8 rfl ?_
  refine z_if_lt (pc := 9) (t := 21) dX6_copyItems_9 (by decide) (fun c_9 => ?_) (fun c_9 => ?_)
  · replace h := h.1 c_9
    exact k_vret (pc := 21) hX dX6_copyItems_21 rfl h
  · replace h := h.2 c_9
    refine z_iload_n (pc := 12) dX6_copyItems_12 rfl ?_
    refine z_if_lt (pc := 13) (t := 21) dX6_copyItems_13 (by decide) (fun c_13 => ?_) (fun c_13 => ?_)
    · replace h := h.1 c_13
      exact k_vret (pc := 21) hX dX6_copyItems_21 rfl h
    · replace h := h.2 c_13
      refine z_iload (pc := 16) dX6_copyItems_16 rfl ?_
      refine z_if_ge (pc := 18) (t := 22) dX6_copyItems_18 (by decide) (fun c_18 => ?_) (fun c_18 => ?_)
      · replace h := h.1 c_18
        refine z_iload (pc := 22) dX6_copyItems_22 rfl ?_
        refine z_aload_n (pc := 24) dX6_copyItems_24 rfl ?_
        refine k_alen (pc := 25) dX6_copyItems_25 hq0 hs0 (by decide) rfl ?_
        refine z_iload_n (pc := 26) dX6_copyItems_26 rfl ?_
        refine z_isub (pc := 27) dX6_copyItems_27 ?_
        refine z_icmp_gt (pc := 28) (t := 49) dX6_copyItems_28 (by decide) (fun c_28 => ?_) (fun c_28 => ?_)
        · replace h := h.1 c_28
          exact k_vret (pc := 49) hX dX6_copyItems_49 rfl h
        · replace h := h.2 c_28
          refine z_iload (pc := 31) dX6_copyItems_31 rfl ?_
          refine z_aload_n (pc := 33) dX6_copyItems_33 rfl ?_
          refine k_alen (pc := 34) dX6_copyItems_34 hq2 hs2 (by decide) rfl ?_
          refine z_iload_n (pc := 35) dX6_copyItems_35 rfl ?_
          refine z_isub (pc := 36) dX6_copyItems_36 ?_
          refine z_icmp_gt (pc := 37) (t := 49) dX6_copyItems_37 (by decide) (fun c_37 => ?_) (fun c_37 => ?_)
          · replace h := h.1 c_37
            exact k_vret (pc := 49) hX dX6_copyItems_49 rfl h
          · replace h := h.2 c_37
            refine z_aload_n (pc := 40) dX6_copyItems_40 rfl ?_
            refine z_iload_n (pc := 41) dX6_copyItems_41 rfl ?_
            refine z_aload_n (pc := 42) dX6_copyItems_42 rfl ?_
            refine z_iload_n (pc := 43) dX6_copyItems_43 rfl ?_
            refine z_iload (pc := 44) dX6_copyItems_44 rfl ?_
            refine k_copyi (pc := 46) dX6_copyItems_46 lk_X6_264 (by decide) rfl hq0 hq2 hs0 hs2 h.1.1 h.1.2.1 h.1.2.2.1 h.1.2.2.2.1 h.1.2.2.2.2 ?_
            replace h := h.2
            exact k_vret (pc := 49) hX dX6_copyItems_49 rfl h
      · replace h := h.2 c_18
        exact k_vret (pc := 21) hX dX6_copyItems_21 rfl h
set_option maxRecDepth 20000 in
theorem w_X6_drop {f : zF} {K : Int32 → zF → Prop} {p1 : Int32} (h : cq mX6_rowOf [.ref 0, .int p1] f (fun r1 f1 => (r1 = none → K (-1000001) f1) ∧ (∀ k1, r1 = some k1 → (isRow k1 ∧ ci mX4_isMissing [.ref k1] f1 (fun r2 f2 => ((r2 = 0 → cv mX4_makeMissing [.ref k1] f2 (fun f3 => ci mX6_unfound [.ref 0, .int (f2 k1 2)] f3 (fun r4 f4 => K r4 f4))) ∧ (¬ r2 = 0 → ci mX6_found [.ref 0, .int 1] f2 (fun r5 f5 => K r5 f5)))))))) : ci mX6_drop [.ref 0, .int p1] f K := by
  refine ci_of (by decide) (Nat.le_of_ble_eq_true rfl) (fun X hX => ?_)
  refine z_aload_n (pc := 0) dX6_drop_0 rfl ?_
  refine z_iload_n (pc := 1) dX6_drop_1 rfl ?_
  refine k_cVq (pc := 2) (av := [.int p1]) zc6 rfl dX6_drop_2 lk_X6_48 rfl (by decide) (by decide) (by decide) rfl rfl h (fun r1 f1 h => ?_)
  rcases r1 with _ | k1
  · replace h := h.1 rfl
    refine z_astore_nN (pc := 5) (lv' := [(2, .null), (0, .ref 0), (1, .int p1)]) dX6_drop_5 (Nat.le_of_ble_eq_true rfl) rfl ?_
    refine z_aload_nN (pc := 6) dX6_drop_6 rfl ?_
    refine z_ifnonnullN (pc := 7) dX6_drop_7 ?_
    refine z_ldc (pc := 10) (v := -1000001) dX6_drop_10 co_X6_52 ?_
    exact k_iret (pc := 12) hX dX6_drop_12 rfl rfl h
  · replace h := h.2 k1 rfl
    have hk1 := h.1
    replace h := h.2
    refine z_astore_n (pc := 5) (lv' := [(2, .ref k1), (0, .ref 0), (1, .int p1)]) dX6_drop_5 (Nat.le_of_ble_eq_true rfl) rfl ?_
    refine z_aload_n (pc := 6) dX6_drop_6 rfl ?_
    refine z_ifnonnull (pc := 7) (t := 13) dX6_drop_7 (by decide) ?_
    refine z_aload_n (pc := 13) dX6_drop_13 rfl ?_
    refine k_cVi (pc := 14) (av := []) zc4 rfl dX6_drop_14 lk_X6_64 rfl (by decide) (by decide) (rw_lt hk1) (rw_sh hk1) rfl h (fun r2 f2 h => ?_)
    refine z_if_eq (pc := 17) (t := 26) dX6_drop_17 (by decide) (fun c_17 => ?_) (fun c_17 => ?_)
    · replace h := h.1 c_17
      refine z_aload_n (pc := 26) dX6_drop_26 rfl ?_
      refine k_geti (pc := 27) (j := 2) zc4 dX6_drop_27 fl_X6_86 (by decide) rfl (rw_lt hk1) (rw_sh hk1) (v := (f2 k1 2)) rfl ?_
      refine z_istore_n (pc := 30) (lv' := [(3, .int (f2 k1 2)), (2, .ref k1), (0, .ref 0), (1, .int p1)]) dX6_drop_30 (Nat.le_of_ble_eq_true rfl) rfl ?_
      refine z_aload_n (pc := 31) dX6_drop_31 rfl ?_
      refine k_cVv (pc := 32) (av := []) zc4 rfl dX6_drop_32 lk_X6_89 rfl (by decide) (by decide) (rw_lt hk1) (rw_sh hk1) rfl h (fun f3 h => ?_)
      refine z_aload_n (pc := 35) dX6_drop_35 rfl ?_
      refine z_iload_n (pc := 36) dX6_drop_36 rfl ?_
      refine k_cVi (pc := 37) (av := [.int (f2 k1 2)]) zc6 rfl dX6_drop_37 lk_X6_61 rfl (by decide) (by decide) (by decide) rfl rfl h (fun r4 f4 h => ?_)
      exact k_iret (pc := 40) hX dX6_drop_40 rfl rfl h
    · replace h := h.2 c_17
      refine z_aload_n (pc := 20) dX6_drop_20 rfl ?_
      refine z_iconst (pc := 21) (v := 1) dX6_drop_21 ic_1 ?_
      refine k_cVi (pc := 22) (av := [.int 1]) zc6 rfl dX6_drop_22 lk_X6_53 rfl (by decide) (by decide) (by decide) rfl rfl h (fun r5 f5 h => ?_)
      exact k_iret (pc := 25) hX dX6_drop_25 rfl rfl h
set_option maxRecDepth 20000 in
theorem w_X6_row {f : zF} {K : Int32 → zF → Prop} {p1 : Int32} {p2 : Int32} {p3 : Int32} (h : cq mX6_rowOf [.ref 0, .int p1] f (fun r1 f1 => (r1 = none → K (-1000001) f1) ∧ (∀ k1, r1 = some k1 → (isRow k1 ∧ ((p2 < 0 → K (-1000001) f1) ∧ (¬ p2 < 0 → ((2 < p2 → K (-1000001) f1) ∧ (¬ 2 < p2 → ((p3 ≤ 40 → ((0 ≤ p3 → cv mX4_make [.ref k1, .int p2, .int p3] f1 (fun f2 => ci mX6_unfound [.ref 0, .int p3] f2 (fun r3 f3 => K r3 f3))) ∧ (¬ 0 ≤ p3 → ci mX6_found [.ref 0, .int 4] f1 (fun r4 f4 => K r4 f4)))) ∧ (¬ p3 ≤ 40 → K (-1000001) f1)))))))))) : ci mX6_row [.ref 0, .int p1, .int p2, .int p3] f K := by
  refine ci_of (by decide) (Nat.le_of_ble_eq_true rfl) (fun X hX => ?_)
  refine z_aload_n (pc := 0) dX6_row_0 rfl ?_
  refine z_iload_n (pc := 1) dX6_row_1 rfl ?_
  refine k_cVq (pc := 2) (av := [.int p1]) zc6 rfl dX6_row_2 lk_X6_48 rfl (by decide) (by decide) (by decide) rfl rfl h (fun r1 f1 h => ?_)
  rcases r1 with _ | k1
  · replace h := h.1 rfl
    refine z_astoreN (pc := 5) (lv' := [(4, .null), (0, .ref 0), (1, .int p1), (2, .int p2), (3, .int p3)]) dX6_row_5 (Nat.le_of_ble_eq_true rfl) rfl ?_
    refine z_aloadN (pc := 7) dX6_row_7 rfl ?_
    refine z_ifnullN (pc := 9) (t := 27) dX6_row_9 (by decide) ?_
    refine z_ldc (pc := 27) (v := -1000001) dX6_row_27 co_X6_52 ?_
    exact k_iret (pc := 29) hX dX6_row_29 rfl rfl h
  · replace h := h.2 k1 rfl
    have hk1 := h.1
    replace h := h.2
    refine z_astore (pc := 5) (lv' := [(4, .ref k1), (0, .ref 0), (1, .int p1), (2, .int p2), (3, .int p3)]) dX6_row_5 (Nat.le_of_ble_eq_true rfl) rfl ?_
    refine z_aload (pc := 7) dX6_row_7 rfl ?_
    refine z_ifnull (pc := 9) dX6_row_9 ?_
    refine z_iload_n (pc := 12) dX6_row_12 rfl ?_
    refine z_if_lt (pc := 13) (t := 27) dX6_row_13 (by decide) (fun c_13 => ?_) (fun c_13 => ?_)
    · replace h := h.1 c_13
      refine z_ldc (pc := 27) (v := -1000001) dX6_row_27 co_X6_52 ?_
      exact k_iret (pc := 29) hX dX6_row_29 rfl rfl h
    · replace h := h.2 c_13
      refine z_iload_n (pc := 16) dX6_row_16 rfl ?_
      refine z_iconst (pc := 17) (v := 2) dX6_row_17 ic_2 ?_
      refine z_icmp_gt (pc := 18) (t := 27) dX6_row_18 (by decide) (fun c_18 => ?_) (fun c_18 => ?_)
      · replace h := h.1 c_18
        refine z_ldc (pc := 27) (v := -1000001) dX6_row_27 co_X6_52 ?_
        exact k_iret (pc := 29) hX dX6_row_29 rfl rfl h
      · replace h := h.2 c_18
        refine z_iload_n (pc := 21) dX6_row_21 rfl ?_
        refine z_bipush (pc := 22) (v := 40) dX6_row_22 bi_40 ?_
        refine z_icmp_le (pc := 24) (t := 30) dX6_row_24 (by decide) (fun c_24 => ?_) (fun c_24 => ?_)
        · replace h := h.1 c_24
          refine z_iload_n (pc := 30) dX6_row_30 rfl ?_
          refine z_if_ge (pc := 31) (t := 40) dX6_row_31 (by decide) (fun c_31 => ?_) (fun c_31 => ?_)
          · replace h := h.1 c_31
            refine z_aload (pc := 40) dX6_row_40 rfl ?_
            refine z_iload_n (pc := 42) dX6_row_42 rfl ?_
            refine z_iload_n (pc := 43) dX6_row_43 rfl ?_
            refine k_cVv (pc := 44) (av := [.int p2, .int p3]) zc4 rfl dX6_row_44 lk_X6_57 rfl (by decide) (by decide) (rw_lt hk1) (rw_sh hk1) rfl h (fun f2 h => ?_)
            refine z_aload_n (pc := 47) dX6_row_47 rfl ?_
            refine z_iload_n (pc := 48) dX6_row_48 rfl ?_
            refine k_cVi (pc := 49) (av := [.int p3]) zc6 rfl dX6_row_49 lk_X6_61 rfl (by decide) (by decide) (by decide) rfl rfl h (fun r3 f3 h => ?_)
            exact k_iret (pc := 52) hX dX6_row_52 rfl rfl h
          · replace h := h.2 c_31
            refine z_aload_n (pc := 34) dX6_row_34 rfl ?_
            refine z_iconst (pc := 35) (v := 4) dX6_row_35 ic_4 ?_
            refine k_cVi (pc := 36) (av := [.int 4]) zc6 rfl dX6_row_36 lk_X6_53 rfl (by decide) (by decide) (by decide) rfl rfl h (fun r4 f4 h => ?_)
            exact k_iret (pc := 39) hX dX6_row_39 rfl rfl h
        · replace h := h.2 c_24
          refine z_ldc (pc := 27) (v := -1000001) dX6_row_27 co_X6_52 ?_
          exact k_iret (pc := 29) hX dX6_row_29 rfl rfl h
set_option maxRecDepth 20000 in
theorem w_X6_rowsThere {f : zF} {K : Int32 → zF → Prop}  (h : ∀ X, kR X (zRi K) → Z X mX6_rowsThere 4 [(0, .ref 0), (1, .int 0), (2, .int 0)] [] (zC f)) : ci mX6_rowsThere [.ref 0] f K := by
  refine ci_of (by decide) (Nat.le_of_ble_eq_true rfl) (fun X hX => ?_)
  replace h := h X hX
  refine z_iconst (pc := 0) (v := 0) dX6_rowsThere_0 ic_0 ?_
  refine z_istore_n (pc := 1) (lv' := [(1, .int 0), (0, .ref 0)]) dX6_rowsThere_1 (Nat.le_of_ble_eq_true rfl) rfl ?_
  refine z_iconst (pc := 2) (v := 0) dX6_rowsThere_2 ic_0 ?_
  refine z_istore_n (pc := 3) (lv' := [(2, .int 0), (1, .int 0), (0, .ref 0)]) dX6_rowsThere_3 (Nat.le_of_ble_eq_true rfl) rfl ?_
  exact z_sub [2, 1, 0] rfl h
set_option maxRecDepth 20000 in
theorem l_X6_rowsThere_4 {X : zX} {f : zF} {K : Int32 → zF → Prop}  {x1 x2 : Int32}  (hX : kR X (zRi K)) (h : ((8 ≤ x2 → K x1 f) ∧ (¬ 8 ≤ x2 → cq mX6_rowOf [.ref 0, .int x2] f (fun r101 f101 => (r101 = none → Z X mX6_rowsThere 4 [(0, .ref 0), (1, .int x1), (2, .int (x2 + 1))] [] (zC f101)) ∧ (∀ k101, r101 = some k101 → (isRow k101 ∧ ci mX4_isMissing [.ref k101] f101 (fun r102 f102 => ((¬ r102 = 0 → Z X mX6_rowsThere 4 [(0, .ref 0), (1, .int x1), (2, .int (x2 + 1))] [] (zC f102)) ∧ (r102 = 0 → Z X mX6_rowsThere 4 [(0, .ref 0), (1, .int (x1 + 1)), (2, .int (x2 + 1))] [] (zC f102)))))))))) : Z X mX6_rowsThere 4 [(0, .ref 0), (1, .int x1), (2, .int x2)] [] (zC f) := by
  refine z_iload_n (pc := 4) dX6_rowsThere_4 rfl ?_
  refine z_bipush (pc := 5) (v := 8) dX6_rowsThere_5 bi_8 ?_
  refine z_icmp_ge (pc := 7) (t := 36) dX6_rowsThere_7 (by decide) (fun c_7 => ?_) (fun c_7 => ?_)
  · replace h := h.1 c_7
    refine z_iload_n (pc := 36) dX6_rowsThere_36 rfl ?_
    exact k_iret (pc := 37) hX dX6_rowsThere_37 rfl rfl h
  · replace h := h.2 c_7
    refine z_aload_n (pc := 10) dX6_rowsThere_10 rfl ?_
    refine z_iload_n (pc := 11) dX6_rowsThere_11 rfl ?_
    refine k_cVq (pc := 12) (av := [.int x2]) zc6 rfl dX6_rowsThere_12 lk_X6_48 rfl (by decide) (by decide) (by decide) rfl rfl h (fun r101 f101 h => ?_)
    rcases r101 with _ | k101
    · replace h := h.1 rfl
      refine z_astore_nN (pc := 15) (lv' := [(3, .null), (0, .ref 0), (1, .int x1), (2, .int x2)]) dX6_rowsThere_15 (Nat.le_of_ble_eq_true rfl) rfl ?_
      refine z_aload_nN (pc := 16) dX6_rowsThere_16 rfl ?_
      refine z_ifnullN (pc := 17) (t := 30) dX6_rowsThere_17 (by decide) ?_
      refine z_iinc (pc := 30) (v := (x2 + 1)) (lv' := [(2, .int (x2 + 1)), (3, .null), (0, .ref 0), (1, .int x1)]) dX6_rowsThere_30 rfl (congrArg (fun z => x2 + z) ic_1) (Nat.le_of_ble_eq_true rfl) rfl ?_
      refine z_goto (pc := 33) (t := 4) dX6_rowsThere_33 (by decide) ?_
      exact z_sub [2, 3, 0] rfl h
    · replace h := h.2 k101 rfl
      have hk101 := h.1
      replace h := h.2
      refine z_astore_n (pc := 15) (lv' := [(3, .ref k101), (0, .ref 0), (1, .int x1), (2, .int x2)]) dX6_rowsThere_15 (Nat.le_of_ble_eq_true rfl) rfl ?_
      refine z_aload_n (pc := 16) dX6_rowsThere_16 rfl ?_
      refine z_ifnull (pc := 17) dX6_rowsThere_17 ?_
      refine z_aload_n (pc := 20) dX6_rowsThere_20 rfl ?_
      refine k_cVi (pc := 21) (av := []) zc4 rfl dX6_rowsThere_21 lk_X6_64 rfl (by decide) (by decide) (rw_lt hk101) (rw_sh hk101) rfl h (fun r102 f102 h => ?_)
      refine z_if_ne (pc := 24) (t := 30) dX6_rowsThere_24 (by decide) (fun c_24 => ?_) (fun c_24 => ?_)
      · replace h := h.1 c_24
        refine z_iinc (pc := 30) (v := (x2 + 1)) (lv' := [(2, .int (x2 + 1)), (3, .ref k101), (0, .ref 0), (1, .int x1)]) dX6_rowsThere_30 rfl (congrArg (fun z => x2 + z) ic_1) (Nat.le_of_ble_eq_true rfl) rfl ?_
        refine z_goto (pc := 33) (t := 4) dX6_rowsThere_33 (by decide) ?_
        exact z_sub [2, 3, 0] rfl h
      · replace h := h.2 c_24
        refine z_iinc (pc := 27) (v := (x1 + 1)) (lv' := [(1, .int (x1 + 1)), (3, .ref k101), (0, .ref 0), (2, .int x2)]) dX6_rowsThere_27 rfl (congrArg (fun z => x1 + z) ic_1) (Nat.le_of_ble_eq_true rfl) rfl ?_
        refine z_iinc (pc := 30) (v := (x2 + 1)) (lv' := [(2, .int (x2 + 1)), (1, .int (x1 + 1)), (3, .ref k101), (0, .ref 0)]) dX6_rowsThere_30 rfl (congrArg (fun z => x2 + z) ic_1) (Nat.le_of_ble_eq_true rfl) rfl ?_
        refine z_goto (pc := 33) (t := 4) dX6_rowsThere_33 (by decide) ?_
        exact z_sub [3, 1, 0] rfl h
set_option maxRecDepth 20000 in
theorem w_X7_behindOf {f : zF} {K : Int32 → zF → Prop} {p1 : Int32} {p2 : Int32} (h : ci mX7_on [.ref 52, .int (1 - p1), .int (((f 56 2) - 1) - p2)] f (fun r1 f1 => K r1 f1)) : ci mX7_behindOf [.ref 52, .int p1, .int p2] f K := by
  refine ci_of (by decide) (Nat.le_of_ble_eq_true rfl) (fun X hX => ?_)
  refine z_aload_n (pc := 0) dX7_behindOf_0 rfl ?_
  refine z_iconst (pc := 1) (v := 1) dX7_behindOf_1 ic_1 ?_
  refine z_iload_n (pc := 2) dX7_behindOf_2 rfl ?_
  refine z_isub (pc := 3) dX7_behindOf_3 ?_
  refine z_aload_n (pc := 4) dX7_behindOf_4 rfl ?_
  refine k_getr (pc := 5) (j := 5) zc7 dX7_behindOf_5 fl_X7_19 (by decide) rfl (by decide) rfl (k2 := 56) rfl ?_
  refine z_iconst (pc := 8) (v := 2) dX7_behindOf_8 ic_2 ?_
  refine k_iald (pc := 9) (j := 2) (v := (f 56 2)) dX7_behindOf_9 (by decide) rfl (by unfold vp_in; decide) (by decide) rfl ?_
  refine z_iconst (pc := 10) (v := 1) dX7_behindOf_10 ic_1 ?_
  refine z_isub (pc := 11) dX7_behindOf_11 ?_
  refine z_iload_n (pc := 12) dX7_behindOf_12 rfl ?_
  refine z_isub (pc := 13) dX7_behindOf_13 ?_
  refine k_cVi (pc := 14) (av := [.int (1 - p1), .int (((f 56 2) - 1) - p2)]) zc7 rfl dX7_behindOf_14 lk_X7_170 rfl (by decide) (by decide) (by decide) rfl rfl h (fun r1 f1 h => ?_)
  exact k_iret (pc := 17) hX dX7_behindOf_17 rfl rfl h
set_option maxRecDepth 20000 in
theorem w_X7_feed {f : zF} {K : Int32 → zF → Prop} {p1 : Int64} {p2 : Int32} (h : ∀ X, kR X (zRi K) → ci mX7_in [.long (Int32.toInt64 p2), .long 1, .long 8] (zup f 52 0 0) (fun r1 f1 => ((¬ r1 = 0 → ((((f1 52 10) + p2) ≤ 400 → Z X mX7_feed 40 [(0, .ref 52), (1, .long p1), (3, .int p2), (4, .int (p2 - 1))] [] (zC f1)) ∧ (¬ ((f1 52 10) + p2) ≤ 400 → K (-1000003) f1))) ∧ (r1 = 0 → K (-1000001) f1)))) : ci mX7_feed [.ref 52, .long p1, .int p2] f K := by
  refine ci_of (by decide) (Nat.le_of_ble_eq_true rfl) (fun X hX => ?_)
  replace h := h X hX
  refine z_aload_n (pc := 0) dX7_feed_0 rfl ?_
  refine z_iconst (pc := 1) (v := 0) dX7_feed_1 ic_0 ?_
  refine k_puti (pc := 2) (j := 0) zc7 dX7_feed_2 fl_X7_41 (by decide) rfl rfl rfl (by decide) rfl ?_
  refine z_iload_n (pc := 5) dX7_feed_5 rfl ?_
  refine z_i2l (pc := 6) dX7_feed_6 ?_
  refine z_lconst (pc := 7) (v := 1) dX7_feed_7 rfl ?_
  refine z_ldc2 (pc := 8) (v := 8) dX7_feed_8 co_X7_66 ?_
  refine k_cSi (pc := 11) (av := [.long (Int32.toInt64 p2), .long 1, .long 8]) dX7_feed_11 lk_X7_51 rfl (by decide) (by decide) rfl h (fun r1 f1 h => ?_)
  refine z_if_ne (pc := 14) (t := 20) dX7_feed_14 (by decide) (fun c_14 => ?_) (fun c_14 => ?_)
  · replace h := h.1 c_14
    refine z_aload_n (pc := 20) dX7_feed_20 rfl ?_
    refine k_geti (pc := 21) (j := 10) zc7 dX7_feed_21 fl_X7_68 (by decide) rfl (by decide) rfl (v := (f1 52 10)) rfl ?_
    refine z_iload_n (pc := 24) dX7_feed_24 rfl ?_
    refine z_iadd (pc := 25) dX7_feed_25 ?_
    refine z_sipush (pc := 26) (v := 400) dX7_feed_26 si_400 ?_
    refine z_icmp_le (pc := 29) (t := 35) dX7_feed_29 (by decide) (fun c_29 => ?_) (fun c_29 => ?_)
    · replace h := h.1 c_29
      refine z_iload_n (pc := 35) dX7_feed_35 rfl ?_
      refine z_iconst (pc := 36) (v := 1) dX7_feed_36 ic_1 ?_
      refine z_isub (pc := 37) dX7_feed_37 ?_
      refine z_istore (pc := 38) (lv' := [(4, .int (p2 - 1)), (0, .ref 52), (1, .long p1), (3, .int p2)]) dX7_feed_38 (Nat.le_of_ble_eq_true rfl) rfl ?_
      exact z_sub [1, 2, 3, 0] rfl h
    · replace h := h.2 c_29
      refine z_ldc (pc := 32) (v := -1000003) dX7_feed_32 co_X7_71 ?_
      exact k_iret (pc := 34) hX dX7_feed_34 rfl rfl h
  · replace h := h.2 c_14
    refine z_ldc (pc := 17) (v := -1000001) dX7_feed_17 co_X7_61 ?_
    exact k_iret (pc := 19) hX dX7_feed_19 rfl rfl h
set_option maxRecDepth 20000 in
theorem l_X7_feed_40 {X : zX} {f : zF} {K : Int32 → zF → Prop}  {x3 x4 : Int32} {y1 : Int64}  (hX : kR X (zRi K)) (h : ((x4 < 0 → K (f 52 10) f) ∧ (¬ x4 < 0 → (∀ z102 : Int32, z102 = (Int64.toInt32 ((y1 >>> (Int32.toInt64 (8 * x4) &&& 63)) &&& 255)) → (vp_in (f 52 10) 400 ∧ Z X mX7_feed 40 [(0, .ref 52), (1, .long y1), (3, .int x3), (4, .int (x4 + (-1)))] [] (zC (zup (zup f 59 (Int32.toNatClampNeg (f 52 10)) z102) 52 10 ((f 52 10) + 1)))))))) : Z X mX7_feed 40 [(0, .ref 52), (1, .long y1), (3, .int x3), (4, .int x4)] [] (zC f) := by
  refine z_iload (pc := 40) dX7_feed_40 rfl ?_
  refine z_if_lt (pc := 42) (t := 82) dX7_feed_42 (by decide) (fun c_42 => ?_) (fun c_42 => ?_)
  · replace h := h.1 c_42
    refine z_aload_n (pc := 82) dX7_feed_82 rfl ?_
    refine k_geti (pc := 83) (j := 10) zc7 dX7_feed_83 fl_X7_68 (by decide) rfl (by decide) rfl (v := (f 52 10)) rfl ?_
    exact k_iret (pc := 86) hX dX7_feed_86 rfl rfl h
  · replace h := h.2 c_42
    refine z_aload_n (pc := 45) dX7_feed_45 rfl ?_
    refine k_getr (pc := 46) (j := 9) zc7 dX7_feed_46 fl_X7_28 (by decide) rfl (by decide) rfl (k2 := 59) rfl ?_
    refine z_aload_n (pc := 49) dX7_feed_49 rfl ?_
    refine k_geti (pc := 50) (j := 10) zc7 dX7_feed_50 fl_X7_68 (by decide) rfl (by decide) rfl (v := (f 52 10)) rfl ?_
    refine z_lload_n (pc := 53) dX7_feed_53 rfl ?_
    refine z_bipush (pc := 54) (v := 8) dX7_feed_54 bi_8 ?_
    refine z_iload (pc := 56) dX7_feed_56 rfl ?_
    refine z_imul (pc := 58) dX7_feed_58 ?_
    refine z_lshr (pc := 59) dX7_feed_59 ?_
    refine z_ldc2 (pc := 60) (v := 255) dX7_feed_60 co_X7_72 ?_
    refine z_land (pc := 63) dX7_feed_63 ?_
    refine z_l2i (pc := 64) dX7_feed_64 ?_
    refine z_name (fun z102 e_z102 => ?_)
    replace h := h z102 e_z102
    refine k_iast (pc := 65) (j := (Int32.toNatClampNeg (f 52 10))) dX7_feed_65 (by decide) rfl h.1 rfl ?_
    replace h := h.2
    refine z_aload_n (pc := 66) dX7_feed_66 rfl ?_
    refine z_dup (pc := 67) dX7_feed_67 rfl ?_
    refine k_geti (pc := 68) (j := 10) zc7 dX7_feed_68 fl_X7_68 (by decide) rfl (by decide) rfl (v := (f 52 10)) rfl ?_
    refine z_iconst (pc := 71) (v := 1) dX7_feed_71 ic_1 ?_
    refine z_iadd (pc := 72) dX7_feed_72 ?_
    refine k_puti (pc := 73) (j := 10) zc7 dX7_feed_73 fl_X7_68 (by decide) rfl rfl rfl (by decide) rfl ?_
    refine z_iinc (pc := 76) (v := (x4 + (-1))) (lv' := [(4, .int (x4 + (-1))), (0, .ref 52), (1, .long y1), (3, .int x3)]) dX7_feed_76 rfl (congrArg (fun z => x4 + z) ic_m1) (Nat.le_of_ble_eq_true rfl) rfl ?_
    refine z_goto (pc := 79) (t := 40) dX7_feed_79 (by decide) ?_
    exact z_sub [1, 2, 3, 0] rfl h
set_option maxRecDepth 20000 in
theorem w_X7_image {f : zF} {K : Int32 → zF → Prop} {p1 : Int32} (h : ∀ X, kR X (zRi K) → ci mX7_in [.long (Int32.toInt64 p1), .long 0, .long 1] (zup f 52 0 0) (fun r1 f1 => ((¬ r1 = 0 → ci mX7_isThere [.ref 52] f1 (fun r2 f2 => ((¬ r2 = 0 → Z X mX7_image 30 [(0, .ref 52), (1, .int p1), (2, .int 0)] [] (zC f2)) ∧ (r2 = 0 → K (-1000002) f2)))) ∧ (r1 = 0 → K (-1000001) f1)))) : ci mX7_image [.ref 52, .int p1] f K := by
  refine ci_of (by decide) (Nat.le_of_ble_eq_true rfl) (fun X hX => ?_)
  replace h := h X hX
  refine z_aload_n (pc := 0) dX7_image_0 rfl ?_
  refine z_iconst (pc := 1) (v := 0) dX7_image_1 ic_0 ?_
  refine k_puti (pc := 2) (j := 0) zc7 dX7_image_2 fl_X7_41 (by decide) rfl rfl rfl (by decide) rfl ?_
  refine z_iload_n (pc := 5) dX7_image_5 rfl ?_
  refine z_i2l (pc := 6) dX7_image_6 ?_
  refine z_lconst (pc := 7) (v := 0) dX7_image_7 rfl ?_
  refine z_lconst (pc := 8) (v := 1) dX7_image_8 rfl ?_
  refine k_cSi (pc := 9) (av := [.long (Int32.toInt64 p1), .long 0, .long 1]) dX7_image_9 lk_X7_51 rfl (by decide) (by decide) rfl h (fun r1 f1 h => ?_)
  refine z_if_ne (pc := 12) (t := 18) dX7_image_12 (by decide) (fun c_12 => ?_) (fun c_12 => ?_)
  · replace h := h.1 c_12
    refine z_aload_n (pc := 18) dX7_image_18 rfl ?_
    refine k_cVi (pc := 19) (av := []) zc7 rfl dX7_image_19 lk_X7_209 rfl (by decide) (by decide) (by decide) rfl rfl h (fun r2 f2 h => ?_)
    refine z_if_ne (pc := 22) (t := 28) dX7_image_22 (by decide) (fun c_22 => ?_) (fun c_22 => ?_)
    · replace h := h.1 c_22
      refine z_iconst (pc := 28) (v := 0) dX7_image_28 ic_0 ?_
      refine z_istore_n (pc := 29) (lv' := [(2, .int 0), (0, .ref 52), (1, .int p1)]) dX7_image_29 (Nat.le_of_ble_eq_true rfl) rfl ?_
      exact z_sub [1, 2, 0] rfl h
    · replace h := h.2 c_22
      refine z_ldc (pc := 25) (v := -1000002) dX7_image_25 co_X7_213 ?_
      exact k_iret (pc := 27) hX dX7_image_27 rfl rfl h
  · replace h := h.2 c_12
    refine z_ldc (pc := 15) (v := -1000001) dX7_image_15 co_X7_61 ?_
    exact k_iret (pc := 17) hX dX7_image_17 rfl rfl h
set_option maxRecDepth 20000 in
theorem l_X7_image_30 {X : zX} {f : zF} {K : Int32 → zF → Prop}  {x1 x2 : Int32}  (hX : kR X (zRi K)) (h : ((37 ≤ x2 → (vp_in x1 2 ∧ K 1 (zup f 60 (Int32.toNatClampNeg x1) 1))) ∧ (¬ 37 ≤ x2 → (vp_in x2 37 ∧ (vp_in ((37 * x1) + x2) 74 ∧ Z X mX7_image 30 [(0, .ref 52), (1, .int x1), (2, .int (x2 + 1))] [] (zC (zup f 61 (Int32.toNatClampNeg ((37 * x1) + x2)) (f 56 (Int32.toNatClampNeg x2))))))))) : Z X mX7_image 30 [(0, .ref 52), (1, .int x1), (2, .int x2)] [] (zC f) := by
  refine z_iload_n (pc := 30) dX7_image_30 rfl ?_
  refine z_bipush (pc := 31) (v := 37) dX7_image_31 bi_37 ?_
  refine z_icmp_ge (pc := 33) (t := 59) dX7_image_33 (by decide) (fun c_33 => ?_) (fun c_33 => ?_)
  · replace h := h.1 c_33
    refine z_aload_n (pc := 59) dX7_image_59 rfl ?_
    refine k_getr (pc := 60) (j := 21) zc7 dX7_image_60 fl_X7_31 (by decide) rfl (by decide) rfl (k2 := 60) rfl ?_
    refine z_iload_n (pc := 63) dX7_image_63 rfl ?_
    refine z_iconst (pc := 64) (v := 1) dX7_image_64 ic_1 ?_
    refine k_zast (pc := 65) (j := (Int32.toNatClampNeg x1)) dX7_image_65 (by decide) rfl h.1 rfl rfl ?_
    replace h := h.2
    refine z_iconst (pc := 66) (v := 1) dX7_image_66 ic_1 ?_
    exact k_iret (pc := 67) hX dX7_image_67 rfl rfl h
  · replace h := h.2 c_33
    refine z_aload_n (pc := 36) dX7_image_36 rfl ?_
    refine k_getr (pc := 37) (j := 22) zc7 dX7_image_37 fl_X7_35 (by decide) rfl (by decide) rfl (k2 := 61) rfl ?_
    refine z_bipush (pc := 40) (v := 37) dX7_image_40 bi_37 ?_
    refine z_iload_n (pc := 42) dX7_image_42 rfl ?_
    refine z_imul (pc := 43) dX7_image_43 ?_
    refine z_iload_n (pc := 44) dX7_image_44 rfl ?_
    refine z_iadd (pc := 45) dX7_image_45 ?_
    refine z_aload_n (pc := 46) dX7_image_46 rfl ?_
    refine k_getr (pc := 47) (j := 5) zc7 dX7_image_47 fl_X7_19 (by decide) rfl (by decide) rfl (k2 := 56) rfl ?_
    refine z_iload_n (pc := 50) dX7_image_50 rfl ?_
    refine k_iald (pc := 51) (j := (Int32.toNatClampNeg x2)) (v := (f 56 (Int32.toNatClampNeg x2))) dX7_image_51 (by decide) rfl h.1 rfl rfl ?_
    replace h := h.2
    refine k_iast (pc := 52) (j := (Int32.toNatClampNeg ((37 * x1) + x2))) dX7_image_52 (by decide) rfl h.1 rfl ?_
    replace h := h.2
    refine z_iinc (pc := 53) (v := (x2 + 1)) (lv' := [(2, .int (x2 + 1)), (0, .ref 52), (1, .int x1)]) dX7_image_53 rfl (congrArg (fun z => x2 + z) ic_1) (Nat.le_of_ble_eq_true rfl) rfl ?_
    refine z_goto (pc := 56) (t := 30) dX7_image_56 (by decide) ?_
    exact z_sub [1, 2, 0] rfl h
set_option maxRecDepth 20000 in
theorem w_X7_isOne {f : zF} {K : Int32 → zF → Prop} {p1 : Int32} (h : ci mX7_in [.long (Int32.toInt64 p1), .long 0, .long (Int32.toInt64 ((f 56 1) - 1))] f (fun r1 f1 => (narrow .boolean (.int r1) = .int r1 ∧ K r1 f1))) : ci mX7_isOne [.ref 52, .int p1] f K := by
  refine ci_of (by decide) (Nat.le_of_ble_eq_true rfl) (fun X hX => ?_)
  refine z_iload_n (pc := 0) dX7_isOne_0 rfl ?_
  refine z_i2l (pc := 1) dX7_isOne_1 ?_
  refine z_lconst (pc := 2) (v := 0) dX7_isOne_2 rfl ?_
  refine z_aload_n (pc := 3) dX7_isOne_3 rfl ?_
  refine k_getr (pc := 4) (j := 5) zc7 dX7_isOne_4 fl_X7_19 (by decide) rfl (by decide) rfl (k2 := 56) rfl ?_
  refine z_iconst (pc := 7) (v := 1) dX7_isOne_7 ic_1 ?_
  refine k_iald (pc := 8) (j := 1) (v := (f 56 1)) dX7_isOne_8 (by decide) rfl (by unfold vp_in; decide) (by decide) rfl ?_
  refine z_iconst (pc := 9) (v := 1) dX7_isOne_9 ic_1 ?_
  refine z_isub (pc := 10) dX7_isOne_10 ?_
  refine z_i2l (pc := 11) dX7_isOne_11 ?_
  refine k_cSi (pc := 12) (av := [.long (Int32.toInt64 p1), .long 0, .long (Int32.toInt64 ((f 56 1) - 1))]) dX7_isOne_12 lk_X7_51 rfl (by decide) (by decide) rfl h (fun r1 f1 h => ?_)
  exact k_iret (pc := 15) hX dX7_isOne_15 rfl h.1 h.2
set_option maxRecDepth 20000 in
theorem w_X7_isPlace {f : zF} {K : Int32 → zF → Prop} {p1 : Int32} (h : ci mX7_in [.long (Int32.toInt64 p1), .long 0, .long (Int32.toInt64 ((f 56 2) - 1))] f (fun r1 f1 => (narrow .boolean (.int r1) = .int r1 ∧ K r1 f1))) : ci mX7_isPlace [.ref 52, .int p1] f K := by
  refine ci_of (by decide) (Nat.le_of_ble_eq_true rfl) (fun X hX => ?_)
  refine z_iload_n (pc := 0) dX7_isPlace_0 rfl ?_
  refine z_i2l (pc := 1) dX7_isPlace_1 ?_
  refine z_lconst (pc := 2) (v := 0) dX7_isPlace_2 rfl ?_
  refine z_aload_n (pc := 3) dX7_isPlace_3 rfl ?_
  refine k_getr (pc := 4) (j := 5) zc7 dX7_isPlace_4 fl_X7_19 (by decide) rfl (by decide) rfl (k2 := 56) rfl ?_
  refine z_iconst (pc := 7) (v := 2) dX7_isPlace_7 ic_2 ?_
  refine k_iald (pc := 8) (j := 2) (v := (f 56 2)) dX7_isPlace_8 (by decide) rfl (by unfold vp_in; decide) (by decide) rfl ?_
  refine z_iconst (pc := 9) (v := 1) dX7_isPlace_9 ic_1 ?_
  refine z_isub (pc := 10) dX7_isPlace_10 ?_
  refine z_i2l (pc := 11) dX7_isPlace_11 ?_
  refine k_cSi (pc := 12) (av := [.long (Int32.toInt64 p1), .long 0, .long (Int32.toInt64 ((f 56 2) - 1))]) dX7_isPlace_12 lk_X7_51 rfl (by decide) (by decide) rfl h (fun r1 f1 h => ?_)
  exact k_iret (pc := 15) hX dX7_isPlace_15 rfl h.1 h.2
set_option maxRecDepth 20000 in
theorem w_X7_isRow {f : zF} {K : Int32 → zF → Prop} {p1 : Int32} (h : ci mX7_in [.long (Int32.toInt64 p1), .long 0, .long 7] f (fun r1 f1 => (narrow .boolean (.int r1) = .int r1 ∧ K r1 f1))) : ci mX7_isRow [.int p1] f K := by
  refine ci_of (by decide) (Nat.le_of_ble_eq_true rfl) (fun X hX => ?_)
  refine z_iload_n (pc := 0) dX7_isRow_0 rfl ?_
  refine z_i2l (pc := 1) dX7_isRow_1 ?_
  refine z_lconst (pc := 2) (v := 0) dX7_isRow_2 rfl ?_
  refine z_ldc2 (pc := 3) (v := 7) dX7_isRow_3 co_X7_49 ?_
  refine k_cSi (pc := 6) (av := [.long (Int32.toInt64 p1), .long 0, .long 7]) dX7_isRow_6 lk_X7_51 rfl (by decide) (by decide) rfl h (fun r1 f1 h => ?_)
  exact k_iret (pc := 9) hX dX7_isRow_9 rfl h.1 h.2
set_option maxRecDepth 20000 in
theorem w_X7_isSide {f : zF} {K : Int32 → zF → Prop} {p1 : Int32} (h : ci mX7_in [.long (Int32.toInt64 p1), .long 0, .long 1] f (fun r1 f1 => (narrow .boolean (.int r1) = .int r1 ∧ K r1 f1))) : ci mX7_isSide [.int p1] f K := by
  refine ci_of (by decide) (Nat.le_of_ble_eq_true rfl) (fun X hX => ?_)
  refine z_iload_n (pc := 0) dX7_isSide_0 rfl ?_
  refine z_i2l (pc := 1) dX7_isSide_1 ?_
  refine z_lconst (pc := 2) (v := 0) dX7_isSide_2 rfl ?_
  refine z_lconst (pc := 3) (v := 1) dX7_isSide_3 rfl ?_
  refine k_cSi (pc := 4) (av := [.long (Int32.toInt64 p1), .long 0, .long 1]) dX7_isSide_4 lk_X7_51 rfl (by decide) (by decide) rfl h (fun r1 f1 h => ?_)
  exact k_iret (pc := 7) hX dX7_isSide_7 rfl h.1 h.2
set_option maxRecDepth 20000 in
theorem w_X7_next {f : zF} {K : zF → Prop}  (h : ∀ X, kR X (zRv K) → Z X mX7_next 0 [(0, .ref 52)] [] (zC f)) : cv mX7_next [.ref 52] f K := by
  refine cv_of (by decide) (Nat.le_of_ble_eq_true rfl) (fun X hX => ?_)
  replace h := h X hX
  exact h
set_option maxRecDepth 20000 in
theorem l_X7_next_0 {X : zX} {f : zF} {K : zF → Prop}   (hX : kR X (zRv K)) (h : ci mX7_byteAt [.ref 52, .int (f 52 13)] f (fun r101 f101 => ((r101 = 32 → Z X mX7_next 0 [(0, .ref 52)] [] (zC (zup f101 52 13 ((f101 52 13) + 1)))) ∧ (¬ r101 = 32 → ci mX7_byteAt [.ref 52, .int (f101 52 13)] f101 (fun r102 f102 => ((¬ r102 = 10 → ci mX7_byteAt [.ref 52, .int (f102 52 13)] (zup f102 52 15 (f102 52 13)) (fun r103 f103 => ((¬ r103 = (-1000000) → ci mX7_isLetter [.int r103] f103 (fun r104 f104 => ((r104 = 0 → ci mX7_isFigure [.int r103] f104 (fun r105 f105 => ((r105 = 0 → (∀ z106 : Int32, z106 = (if r103 = 59 then 4 else (if r103 = 47 then 5 else 0)) → K (zup (zup (zup f105 52 13 ((f105 52 13) + 1)) 52 14 z106) 52 16 ((f105 52 13) + 1)))) ∧ (¬ r105 = 0 → Z X mX7_next 119 [(0, .ref 52), (1, .int r103)] [] (zC f105))))) ∧ (¬ r104 = 0 → Z X mX7_next 77 [(0, .ref 52), (1, .int r103)] [] (zC f104))))) ∧ (r103 = (-1000000) → K (zup (zup f103 52 14 1) 52 16 (f103 52 13)))))) ∧ (r102 = 10 → Z X mX7_next 0 [(0, .ref 52)] [] (zC (zup f102 52 13 ((f102 52 13) + 1)))))))))) : Z X mX7_next 0 [(0, .ref 52)] [] (zC f) := by
  refine z_aload_n (pc := 0) dX7_next_0 rfl ?_
  refine z_aload_n (pc := 1) dX7_next_1 rfl ?_
  refine k_geti (pc := 2) (j := 13) zc7 dX7_next_2 fl_X7_78 (by decide) rfl (by decide) rfl (v := (f 52 13)) rfl ?_
  refine k_cVi (pc := 5) (av := [.int (f 52 13)]) zc7 rfl dX7_next_5 lk_X7_81 rfl (by decide) (by decide) (by decide) rfl rfl h (fun r101 f101 h => ?_)
  refine z_bipush (pc := 8) (v := 32) dX7_next_8 bi_32 ?_
  refine z_icmp_eq (pc := 10) (t := 26) dX7_next_10 (by decide) (fun c_10 => ?_) (fun c_10 => ?_)
  · replace h := h.1 c_10
    refine z_aload_n (pc := 26) dX7_next_26 rfl ?_
    refine z_dup (pc := 27) dX7_next_27 rfl ?_
    refine k_geti (pc := 28) (j := 13) zc7 dX7_next_28 fl_X7_78 (by decide) rfl (by decide) rfl (v := (f101 52 13)) rfl ?_
    refine z_iconst (pc := 31) (v := 1) dX7_next_31 ic_1 ?_
    refine z_iadd (pc := 32) dX7_next_32 ?_
    refine k_puti (pc := 33) (j := 13) zc7 dX7_next_33 fl_X7_78 (by decide) rfl rfl rfl (by decide) rfl ?_
    refine z_goto (pc := 36) (t := 0) dX7_next_36 (by decide) ?_
    exact h
  · replace h := h.2 c_10
    refine z_aload_n (pc := 13) dX7_next_13 rfl ?_
    refine z_aload_n (pc := 14) dX7_next_14 rfl ?_
    refine k_geti (pc := 15) (j := 13) zc7 dX7_next_15 fl_X7_78 (by decide) rfl (by decide) rfl (v := (f101 52 13)) rfl ?_
    refine k_cVi (pc := 18) (av := [.int (f101 52 13)]) zc7 rfl dX7_next_18 lk_X7_81 rfl (by decide) (by decide) (by decide) rfl rfl h (fun r102 f102 h => ?_)
    refine z_bipush (pc := 21) (v := 10) dX7_next_21 bi_10 ?_
    refine z_icmp_ne (pc := 23) (t := 39) dX7_next_23 (by decide) (fun c_23 => ?_) (fun c_23 => ?_)
    · replace h := h.1 c_23
      refine z_aload_n (pc := 39) dX7_next_39 rfl ?_
      refine z_aload_n (pc := 40) dX7_next_40 rfl ?_
      refine k_geti (pc := 41) (j := 13) zc7 dX7_next_41 fl_X7_78 (by decide) rfl (by decide) rfl (v := (f102 52 13)) rfl ?_
      refine k_puti (pc := 44) (j := 15) zc7 dX7_next_44 fl_X7_84 (by decide) rfl rfl rfl (by decide) rfl ?_
      refine z_aload_n (pc := 47) dX7_next_47 rfl ?_
      refine z_aload_n (pc := 48) dX7_next_48 rfl ?_
      refine k_geti (pc := 49) (j := 13) zc7 dX7_next_49 fl_X7_78 (by decide) rfl (by decide) rfl (v := (f102 52 13)) rfl ?_
      refine k_cVi (pc := 52) (av := [.int (f102 52 13)]) zc7 rfl dX7_next_52 lk_X7_81 rfl (by decide) (by decide) (by decide) rfl rfl h (fun r103 f103 h => ?_)
      refine z_istore_n (pc := 55) (lv' := [(1, .int r103), (0, .ref 52)]) dX7_next_55 (Nat.le_of_ble_eq_true rfl) rfl ?_
      refine z_iload_n (pc := 56) dX7_next_56 rfl ?_
      refine z_ldc (pc := 57) (v := -1000000) dX7_next_57 co_X7_77 ?_
      refine z_icmp_ne (pc := 59) (t := 70) dX7_next_59 (by decide) (fun c_59 => ?_) (fun c_59 => ?_)
      · replace h := h.1 c_59
        refine z_iload_n (pc := 70) dX7_next_70 rfl ?_
        refine k_cSi (pc := 71) (av := [.int r103]) dX7_next_71 lk_X7_90 rfl (by decide) (by decide) rfl h (fun r104 f104 h => ?_)
        refine z_if_eq (pc := 74) (t := 112) dX7_next_74 (by decide) (fun c_74 => ?_) (fun c_74 => ?_)
        · replace h := h.1 c_74
          refine z_iload_n (pc := 112) dX7_next_112 rfl ?_
          refine k_cSi (pc := 113) (av := [.int r103]) dX7_next_113 lk_X7_93 rfl (by decide) (by decide) rfl h (fun r105 f105 h => ?_)
          refine z_if_eq (pc := 116) (t := 171) dX7_next_116 (by decide) (fun c_116 => ?_) (fun c_116 => ?_)
          · replace h := h.1 c_116
            refine z_aload_n (pc := 171) dX7_next_171 rfl ?_
            refine z_dup (pc := 172) dX7_next_172 rfl ?_
            refine k_geti (pc := 173) (j := 13) zc7 dX7_next_173 fl_X7_78 (by decide) rfl (by decide) rfl (v := (f105 52 13)) rfl ?_
            refine z_iconst (pc := 176) (v := 1) dX7_next_176 ic_1 ?_
            refine z_iadd (pc := 177) dX7_next_177 ?_
            refine k_puti (pc := 178) (j := 13) zc7 dX7_next_178 fl_X7_78 (by decide) rfl rfl rfl (by decide) rfl ?_
            refine z_aload_n (pc := 181) dX7_next_181 rfl ?_
            refine z_iload_n (pc := 182) dX7_next_182 rfl ?_
            refine z_bipush (pc := 183) (v := 59) dX7_next_183 bi_59 ?_
            suffices hm107 : Z X mX7_next 203 [(1, .int r103), (0, .ref 52)] [.int (if r103 = 59 then 4 else (if r103 = 47 then 5 else 0)), .ref 52] (zC (zup f105 52 13 ((f105 52 13) + 1))) by
              refine z_icmp_ne (pc := 185) (t := 192) dX7_next_185 (by decide) (fun c_185 => ?_) (fun c_185 => ?_)
              · rw [if_neg c_185] at hm107
                refine z_iload_n (pc := 192) dX7_next_192 rfl ?_
                refine z_bipush (pc := 193) (v := 47) dX7_next_193 bi_47 ?_
                refine z_icmp_ne (pc := 195) (t := 202) dX7_next_195 (by decide) (fun c_195 => ?_) (fun c_195 => ?_)
                · rw [if_neg c_195] at hm107
                  refine z_iconst (pc := 202) (v := 0) dX7_next_202 ic_0 ?_
                  exact hm107
                · rw [if_pos c_195] at hm107
                  refine z_iconst (pc := 198) (v := 5) dX7_next_198 ic_5 ?_
                  refine z_goto (pc := 199) (t := 203) dX7_next_199 (by decide) ?_
                  exact hm107
              · rw [if_pos c_185] at hm107
                refine z_iconst (pc := 188) (v := 4) dX7_next_188 ic_4 ?_
                refine z_goto (pc := 189) (t := 203) dX7_next_189 (by decide) ?_
                exact hm107
            refine z_name (fun z106 e_z106 => ?_)
            replace h := h z106 e_z106
            refine k_puti (pc := 203) (j := 14) zc7 dX7_next_203 fl_X7_87 (by decide) rfl rfl rfl (by decide) rfl ?_
            refine z_aload_n (pc := 206) dX7_next_206 rfl ?_
            refine z_aload_n (pc := 207) dX7_next_207 rfl ?_
            refine k_geti (pc := 208) (j := 13) zc7 dX7_next_208 fl_X7_78 (by decide) rfl (by decide) rfl (v := ((f105 52 13) + 1)) rfl ?_
            refine k_puti (pc := 211) (j := 16) zc7 dX7_next_211 fl_X7_96 (by decide) rfl rfl rfl (by decide) rfl ?_
            exact k_vret (pc := 214) hX dX7_next_214 rfl h
          · replace h := h.2 c_116
            exact z_sub [1, 0] rfl h
        · replace h := h.2 c_74
          exact z_sub [1, 0] rfl h
      · replace h := h.2 c_59
        refine z_aload_n (pc := 62) dX7_next_62 rfl ?_
        refine z_iconst (pc := 63) (v := 1) dX7_next_63 ic_1 ?_
        refine k_puti (pc := 64) (j := 14) zc7 dX7_next_64 fl_X7_87 (by decide) rfl rfl rfl (by decide) rfl ?_
        refine z_goto (pc := 67) (t := 206) dX7_next_67 (by decide) ?_
        refine z_aload_n (pc := 206) dX7_next_206 rfl ?_
        refine z_aload_n (pc := 207) dX7_next_207 rfl ?_
        refine k_geti (pc := 208) (j := 13) zc7 dX7_next_208 fl_X7_78 (by decide) rfl (by decide) rfl (v := (f103 52 13)) rfl ?_
        refine k_puti (pc := 211) (j := 16) zc7 dX7_next_211 fl_X7_96 (by decide) rfl rfl rfl (by decide) rfl ?_
        exact k_vret (pc := 214) hX dX7_next_214 rfl h
    · replace h := h.2 c_23
      refine z_aload_n (pc := 26) dX7_next_26 rfl ?_
      refine z_dup (pc := 27) dX7_next_27 rfl ?_
      refine k_geti (pc := 28) (j := 13) zc7 dX7_next_28 fl_X7_78 (by decide) rfl (by decide) rfl (v := (f102 52 13)) rfl ?_
      refine z_iconst (pc := 31) (v := 1) dX7_next_31 ic_1 ?_
      refine z_iadd (pc := 32) dX7_next_32 ?_
      refine k_puti (pc := 33) (j := 13) zc7 dX7_next_33 fl_X7_78 (by decide) rfl rfl rfl (by decide) rfl ?_
      refine z_goto (pc := 36) (t := 0) dX7_next_36 (by decide) ?_
      exact h
set_option maxRecDepth 20000 in
theorem l_X7_next_77 {X : zX} {f : zF} {K : zF → Prop}  {x1 : Int32}  (hX : kR X (zRv K)) (h : ci mX7_byteAt [.ref 52, .int (f 52 13)] f (fun r208 f208 => ci mX7_isLetter [.int r208] f208 (fun r209 f209 => ((r209 = 0 → K (zup (zup f209 52 14 2) 52 16 (f209 52 13))) ∧ (¬ r209 = 0 → Z X mX7_next 77 [(0, .ref 52), (1, .int x1)] [] (zC (zup f209 52 13 ((f209 52 13) + 1)))))))) : Z X mX7_next 77 [(0, .ref 52), (1, .int x1)] [] (zC f) := by
  refine z_aload_n (pc := 77) dX7_next_77 rfl ?_
  refine z_aload_n (pc := 78) dX7_next_78 rfl ?_
  refine k_geti (pc := 79) (j := 13) zc7 dX7_next_79 fl_X7_78 (by decide) rfl (by decide) rfl (v := (f 52 13)) rfl ?_
  refine k_cVi (pc := 82) (av := [.int (f 52 13)]) zc7 rfl dX7_next_82 lk_X7_81 rfl (by decide) (by decide) (by decide) rfl rfl h (fun r208 f208 h => ?_)
  refine k_cSi (pc := 85) (av := [.int r208]) dX7_next_85 lk_X7_90 rfl (by decide) (by decide) rfl h (fun r209 f209 h => ?_)
  refine z_if_eq (pc := 88) (t := 104) dX7_next_88 (by decide) (fun c_88 => ?_) (fun c_88 => ?_)
  · replace h := h.1 c_88
    refine z_aload_n (pc := 104) dX7_next_104 rfl ?_
    refine z_iconst (pc := 105) (v := 2) dX7_next_105 ic_2 ?_
    refine k_puti (pc := 106) (j := 14) zc7 dX7_next_106 fl_X7_87 (by decide) rfl rfl rfl (by decide) rfl ?_
    refine z_goto (pc := 109) (t := 206) dX7_next_109 (by decide) ?_
    refine z_aload_n (pc := 206) dX7_next_206 rfl ?_
    refine z_aload_n (pc := 207) dX7_next_207 rfl ?_
    refine k_geti (pc := 208) (j := 13) zc7 dX7_next_208 fl_X7_78 (by decide) rfl (by decide) rfl (v := (f209 52 13)) rfl ?_
    refine k_puti (pc := 211) (j := 16) zc7 dX7_next_211 fl_X7_96 (by decide) rfl rfl rfl (by decide) rfl ?_
    exact k_vret (pc := 214) hX dX7_next_214 rfl h
  · replace h := h.2 c_88
    refine z_aload_n (pc := 91) dX7_next_91 rfl ?_
    refine z_dup (pc := 92) dX7_next_92 rfl ?_
    refine k_geti (pc := 93) (j := 13) zc7 dX7_next_93 fl_X7_78 (by decide) rfl (by decide) rfl (v := (f209 52 13)) rfl ?_
    refine z_iconst (pc := 96) (v := 1) dX7_next_96 ic_1 ?_
    refine z_iadd (pc := 97) dX7_next_97 ?_
    refine k_puti (pc := 98) (j := 13) zc7 dX7_next_98 fl_X7_78 (by decide) rfl rfl rfl (by decide) rfl ?_
    refine z_goto (pc := 101) (t := 77) dX7_next_101 (by decide) ?_
    exact h
set_option maxRecDepth 20000 in
theorem l_X7_next_119 {X : zX} {f : zF} {K : zF → Prop}  {x1 : Int32}  (hX : kR X (zRv K)) (h : ci mX7_byteAt [.ref 52, .int (f 52 13)] f (fun r310 f310 => ci mX7_isFigure [.int r310] f310 (fun r311 f311 => ((r311 = 0 → (∀ z312 : Int32, z312 = (if ((f311 52 13) - (f311 52 15)) ≤ 3 then 3 else 0) → K (zup (zup f311 52 14 z312) 52 16 (f311 52 13)))) ∧ (¬ r311 = 0 → Z X mX7_next 119 [(0, .ref 52), (1, .int x1)] [] (zC (zup f311 52 13 ((f311 52 13) + 1)))))))) : Z X mX7_next 119 [(0, .ref 52), (1, .int x1)] [] (zC f) := by
  refine z_aload_n (pc := 119) dX7_next_119 rfl ?_
  refine z_aload_n (pc := 120) dX7_next_120 rfl ?_
  refine k_geti (pc := 121) (j := 13) zc7 dX7_next_121 fl_X7_78 (by decide) rfl (by decide) rfl (v := (f 52 13)) rfl ?_
  refine k_cVi (pc := 124) (av := [.int (f 52 13)]) zc7 rfl dX7_next_124 lk_X7_81 rfl (by decide) (by decide) (by decide) rfl rfl h (fun r310 f310 h => ?_)
  refine k_cSi (pc := 127) (av := [.int r310]) dX7_next_127 lk_X7_93 rfl (by decide) (by decide) rfl h (fun r311 f311 h => ?_)
  refine z_if_eq (pc := 130) (t := 146) dX7_next_130 (by decide) (fun c_130 => ?_) (fun c_130 => ?_)
  · replace h := h.1 c_130
    refine z_aload_n (pc := 146) dX7_next_146 rfl ?_
    refine z_aload_n (pc := 147) dX7_next_147 rfl ?_
    refine k_geti (pc := 148) (j := 13) zc7 dX7_next_148 fl_X7_78 (by decide) rfl (by decide) rfl (v := (f311 52 13)) rfl ?_
    refine z_aload_n (pc := 151) dX7_next_151 rfl ?_
    refine k_geti (pc := 152) (j := 15) zc7 dX7_next_152 fl_X7_84 (by decide) rfl (by decide) rfl (v := (f311 52 15)) rfl ?_
    refine z_isub (pc := 155) dX7_next_155 ?_
    refine z_iconst (pc := 156) (v := 3) dX7_next_156 ic_3 ?_
    suffices hm313 : Z X mX7_next 165 [(0, .ref 52), (1, .int x1)] [.int (if ((f311 52 13) - (f311 52 15)) ≤ 3 then 3 else 0), .ref 52] (zC f311) by
      refine z_icmp_le (pc := 157) (t := 164) dX7_next_157 (by decide) (fun c_157 => ?_) (fun c_157 => ?_)
      · rw [if_pos c_157] at hm313
        refine z_iconst (pc := 164) (v := 3) dX7_next_164 ic_3 ?_
        exact hm313
      · rw [if_neg c_157] at hm313
        refine z_iconst (pc := 160) (v := 0) dX7_next_160 ic_0 ?_
        refine z_goto (pc := 161) (t := 165) dX7_next_161 (by decide) ?_
        exact hm313
    refine z_name (fun z312 e_z312 => ?_)
    replace h := h z312 e_z312
    refine k_puti (pc := 165) (j := 14) zc7 dX7_next_165 fl_X7_87 (by decide) rfl rfl rfl (by decide) rfl ?_
    refine z_goto (pc := 168) (t := 206) dX7_next_168 (by decide) ?_
    refine z_aload_n (pc := 206) dX7_next_206 rfl ?_
    refine z_aload_n (pc := 207) dX7_next_207 rfl ?_
    refine k_geti (pc := 208) (j := 13) zc7 dX7_next_208 fl_X7_78 (by decide) rfl (by decide) rfl (v := (f311 52 13)) rfl ?_
    refine k_puti (pc := 211) (j := 16) zc7 dX7_next_211 fl_X7_96 (by decide) rfl rfl rfl (by decide) rfl ?_
    exact k_vret (pc := 214) hX dX7_next_214 rfl h
  · replace h := h.2 c_130
    refine z_aload_n (pc := 133) dX7_next_133 rfl ?_
    refine z_dup (pc := 134) dX7_next_134 rfl ?_
    refine k_geti (pc := 135) (j := 13) zc7 dX7_next_135 fl_X7_78 (by decide) rfl (by decide) rfl (v := (f311 52 13)) rfl ?_
    refine z_iconst (pc := 138) (v := 1) dX7_next_138 ic_1 ?_
    refine z_iadd (pc := 139) dX7_next_139 ?_
    refine k_puti (pc := 140) (j := 13) zc7 dX7_next_140 fl_X7_78 (by decide) rfl rfl rfl (by decide) rfl ?_
    refine z_goto (pc := 143) (t := 119) dX7_next_143 (by decide) ?_
    exact h
set_option maxRecDepth 20000 in
theorem w_X7_plainSize {f : zF} {K : Int32 → zF → Prop} {p1 : Int32} (h : cv mX7_began [.ref 52, .int 10] f (fun f1 => ci mX7_cellsOf [.ref 52, .int p1] f1 (fun r2 f2 => ci mX7_bits [.int r2] f2 (fun r3 f3 => K r3 f3)))) : ci mX7_plainSize [.ref 52, .int p1] f K := by
  refine ci_of (by decide) (Nat.le_of_ble_eq_true rfl) (fun X hX => ?_)
  refine z_aload_n (pc := 0) dX7_plainSize_0 rfl ?_
  refine z_bipush (pc := 1) (v := 10) dX7_plainSize_1 bi_10 ?_
  refine k_cVv (pc := 3) (av := [.int 10]) zc7 rfl dX7_plainSize_3 lk_X7_251 rfl (by decide) (by decide) (by decide) rfl rfl h (fun f1 h => ?_)
  refine z_aload_n (pc := 6) dX7_plainSize_6 rfl ?_
  refine z_iload_n (pc := 7) dX7_plainSize_7 rfl ?_
  refine k_cVi (pc := 8) (av := [.int p1]) zc7 rfl dX7_plainSize_8 lk_X7_176 rfl (by decide) (by decide) (by decide) rfl rfl h (fun r2 f2 h => ?_)
  refine k_cSi (pc := 11) (av := [.int r2]) dX7_plainSize_11 lk_X7_185 rfl (by decide) (by decide) rfl h (fun r3 f3 h => ?_)
  exact k_iret (pc := 14) hX dX7_plainSize_14 rfl rfl h
set_option maxRecDepth 20000 in
theorem w_X7_readOf {f : zF} {K : Int32 → zF → Prop} {p1 : Int32} (h : ∀ X, kR X (zRi K) → Z X mX7_readOf 10 [(0, .ref 52), (1, .int p1), (2, .int 0), (3, .int 0)] [] (zC (zup f 52 19 10))) : ci mX7_readOf [.ref 52, .int p1] f K := by
  refine ci_of (by decide) (Nat.le_of_ble_eq_true rfl) (fun X hX => ?_)
  replace h := h X hX
  refine z_iconst (pc := 0) (v := 0) dX7_readOf_0 ic_0 ?_
  refine z_istore_n (pc := 1) (lv' := [(2, .int 0), (0, .ref 52), (1, .int p1)]) dX7_readOf_1 (Nat.le_of_ble_eq_true rfl) rfl ?_
  refine z_aload_n (pc := 2) dX7_readOf_2 rfl ?_
  refine z_bipush (pc := 3) (v := 10) dX7_readOf_3 bi_10 ?_
  refine k_puti (pc := 5) (j := 19) zc7 dX7_readOf_5 fl_X7_182 (by decide) rfl rfl rfl (by decide) rfl ?_
  refine z_iconst (pc := 8) (v := 0) dX7_readOf_8 ic_0 ?_
  refine z_istore_n (pc := 9) (lv' := [(3, .int 0), (2, .int 0), (0, .ref 52), (1, .int p1)]) dX7_readOf_9 (Nat.le_of_ble_eq_true rfl) rfl ?_
  exact z_sub [2, 3, 1, 0] rfl h
set_option maxRecDepth 20000 in
theorem l_X7_readOf_10 {X : zX} {f : zF} {K : Int32 → zF → Prop}  {x1 x2 x3 : Int32}  (hX : kR X (zRi K)) (h : (((f 56 1) ≤ x3 → K x2 f) ∧ (¬ (f 56 1) ≤ x3 → ci mX7_cellsOf [.ref 52, .int x3] f (fun r101 f101 => ci mX7_bits [.int (r101 ^^^ x1)] f101 (fun r102 f102 => (∀ z103 : Int32, z103 = (if (f102 52 19) ≤ r102 then (if r102 = (f102 52 19) then ((f102 52 20) + 1) else (f102 52 20)) else 1) → (∀ z104 : Int32, z104 = (if (f102 52 19) ≤ r102 then x2 else x3) → (∀ z105 : Int32, z105 = (if (f102 52 19) ≤ r102 then (f102 52 19) else r102) → Z X mX7_readOf 10 [(0, .ref 52), (1, .int x1), (2, .int z104), (3, .int (x3 + 1))] [] (zC (zup (zup f102 52 20 z103) 52 19 z105)))))))))) : Z X mX7_readOf 10 [(0, .ref 52), (1, .int x1), (2, .int x2), (3, .int x3)] [] (zC f) := by
  refine z_iload_n (pc := 10) dX7_readOf_10 rfl ?_
  refine z_aload_n (pc := 11) dX7_readOf_11 rfl ?_
  refine k_getr (pc := 12) (j := 5) zc7 dX7_readOf_12 fl_X7_19 (by decide) rfl (by decide) rfl (k2 := 56) rfl ?_
  refine z_iconst (pc := 15) (v := 1) dX7_readOf_15 ic_1 ?_
  refine k_iald (pc := 16) (j := 1) (v := (f 56 1)) dX7_readOf_16 (by decide) rfl (by unfold vp_in; decide) (by decide) rfl ?_
  refine z_icmp_ge (pc := 17) (t := 114) dX7_readOf_17 (by decide) (fun c_17 => ?_) (fun c_17 => ?_)
  · replace h := h.1 c_17
    refine z_iload_n (pc := 114) dX7_readOf_114 rfl ?_
    exact k_iret (pc := 115) hX dX7_readOf_115 rfl rfl h
  · replace h := h.2 c_17
    refine z_aload_n (pc := 20) dX7_readOf_20 rfl ?_
    refine z_iload_n (pc := 21) dX7_readOf_21 rfl ?_
    refine k_cVi (pc := 22) (av := [.int x3]) zc7 rfl dX7_readOf_22 lk_X7_176 rfl (by decide) (by decide) (by decide) rfl rfl h (fun r101 f101 h => ?_)
    refine z_iload_n (pc := 25) dX7_readOf_25 rfl ?_
    refine z_ixor (pc := 26) dX7_readOf_26 ?_
    refine k_cSi (pc := 27) (av := [.int (r101 ^^^ x1)]) dX7_readOf_27 lk_X7_185 rfl (by decide) (by decide) rfl h (fun r102 f102 h => ?_)
    refine z_istore (pc := 30) (lv' := [(4, .int r102), (0, .ref 52), (1, .int x1), (2, .int x2), (3, .int x3)]) dX7_readOf_30 (Nat.le_of_ble_eq_true rfl) rfl ?_
    refine z_aload_n (pc := 32) dX7_readOf_32 rfl ?_
    refine z_iload (pc := 33) dX7_readOf_33 rfl ?_
    refine z_aload_n (pc := 35) dX7_readOf_35 rfl ?_
    refine k_geti (pc := 36) (j := 19) zc7 dX7_readOf_36 fl_X7_182 (by decide) rfl (by decide) rfl (v := (f102 52 19)) rfl ?_
    suffices hm108 : Z X mX7_readOf 68 [(4, .int r102), (0, .ref 52), (1, .int x1), (2, .int x2), (3, .int x3)] [.int (if (f102 52 19) ≤ r102 then (if r102 = (f102 52 19) then ((f102 52 20) + 1) else (f102 52 20)) else 1), .ref 52] (zC f102) by
      refine z_icmp_ge (pc := 39) (t := 46) dX7_readOf_39 (by decide) (fun c_39 => ?_) (fun c_39 => ?_)
      · rw [if_pos c_39] at hm108
        refine z_iload (pc := 46) dX7_readOf_46 rfl ?_
        refine z_aload_n (pc := 48) dX7_readOf_48 rfl ?_
        refine k_geti (pc := 49) (j := 19) zc7 dX7_readOf_49 fl_X7_182 (by decide) rfl (by decide) rfl (v := (f102 52 19)) rfl ?_
        refine z_icmp_ne (pc := 52) (t := 64) dX7_readOf_52 (by decide) (fun c_52 => ?_) (fun c_52 => ?_)
        · rw [if_neg c_52] at hm108
          refine z_aload_n (pc := 64) dX7_readOf_64 rfl ?_
          refine k_geti (pc := 65) (j := 20) zc7 dX7_readOf_65 fl_X7_188 (by decide) rfl (by decide) rfl (v := (f102 52 20)) rfl ?_
          exact hm108
        · rw [if_pos c_52] at hm108
          refine z_aload_n (pc := 55) dX7_readOf_55 rfl ?_
          refine k_geti (pc := 56) (j := 20) zc7 dX7_readOf_56 fl_X7_188 (by decide) rfl (by decide) rfl (v := (f102 52 20)) rfl ?_
          refine z_iconst (pc := 59) (v := 1) dX7_readOf_59 ic_1 ?_
          refine z_iadd (pc := 60) dX7_readOf_60 ?_
          refine z_goto (pc := 61) (t := 68) dX7_readOf_61 (by decide) ?_
          exact hm108
      · rw [if_neg c_39] at hm108
        refine z_iconst (pc := 42) (v := 1) dX7_readOf_42 ic_1 ?_
        refine z_goto (pc := 43) (t := 68) dX7_readOf_43 (by decide) ?_
        exact hm108
    refine z_name (fun z103 e_z103 => ?_)
    replace h := h z103 e_z103
    refine k_puti (pc := 68) (j := 20) zc7 dX7_readOf_68 fl_X7_188 (by decide) rfl rfl rfl (by decide) rfl ?_
    refine z_iload (pc := 71) dX7_readOf_71 rfl ?_
    refine z_aload_n (pc := 73) dX7_readOf_73 rfl ?_
    refine k_geti (pc := 74) (j := 19) zc7 dX7_readOf_74 fl_X7_182 (by decide) rfl (by decide) rfl (v := (f102 52 19)) rfl ?_
    suffices hm107 : Z X mX7_readOf 85 [(4, .int r102), (0, .ref 52), (1, .int x1), (2, .int x2), (3, .int x3)] [.int (if (f102 52 19) ≤ r102 then x2 else x3)] (zC (zup f102 52 20 z103)) by
      refine z_icmp_ge (pc := 77) (t := 84) dX7_readOf_77 (by decide) (fun c_77 => ?_) (fun c_77 => ?_)
      · rw [if_pos c_77] at hm107
        refine z_iload_n (pc := 84) dX7_readOf_84 rfl ?_
        exact hm107
      · rw [if_neg c_77] at hm107
        refine z_iload_n (pc := 80) dX7_readOf_80 rfl ?_
        refine z_goto (pc := 81) (t := 85) dX7_readOf_81 (by decide) ?_
        exact hm107
    refine z_name (fun z104 e_z104 => ?_)
    replace h := h z104 e_z104
    refine z_istore_n (pc := 85) (lv' := [(2, .int z104), (4, .int r102), (0, .ref 52), (1, .int x1), (3, .int x3)]) dX7_readOf_85 (Nat.le_of_ble_eq_true rfl) rfl ?_
    refine z_aload_n (pc := 86) dX7_readOf_86 rfl ?_
    refine z_iload (pc := 87) dX7_readOf_87 rfl ?_
    refine z_aload_n (pc := 89) dX7_readOf_89 rfl ?_
    refine k_geti (pc := 90) (j := 19) zc7 dX7_readOf_90 fl_X7_182 (by decide) rfl (by decide) rfl (v := (f102 52 19)) rfl ?_
    suffices hm106 : Z X mX7_readOf 105 [(2, .int z104), (4, .int r102), (0, .ref 52), (1, .int x1), (3, .int x3)] [.int (if (f102 52 19) ≤ r102 then (f102 52 19) else r102), .ref 52] (zC (zup f102 52 20 z103)) by
      refine z_icmp_ge (pc := 93) (t := 101) dX7_readOf_93 (by decide) (fun c_93 => ?_) (fun c_93 => ?_)
      · rw [if_pos c_93] at hm106
        refine z_aload_n (pc := 101) dX7_readOf_101 rfl ?_
        refine k_geti (pc := 102) (j := 19) zc7 dX7_readOf_102 fl_X7_182 (by decide) rfl (by decide) rfl (v := (f102 52 19)) rfl ?_
        exact hm106
      · rw [if_neg c_93] at hm106
        refine z_iload (pc := 96) dX7_readOf_96 rfl ?_
        refine z_goto (pc := 98) (t := 105) dX7_readOf_98 (by decide) ?_
        exact hm106
    refine z_name (fun z105 e_z105 => ?_)
    replace h := h z105 e_z105
    refine k_puti (pc := 105) (j := 19) zc7 dX7_readOf_105 fl_X7_182 (by decide) rfl rfl rfl (by decide) rfl ?_
    refine z_iinc (pc := 108) (v := (x3 + 1)) (lv' := [(3, .int (x3 + 1)), (2, .int z104), (4, .int r102), (0, .ref 52), (1, .int x1)]) dX7_readOf_108 rfl (congrArg (fun z => x3 + z) ic_1) (Nat.le_of_ble_eq_true rfl) rfl ?_
    refine z_goto (pc := 111) (t := 10) dX7_readOf_111 (by decide) ?_
    exact z_sub [3, 4, 1, 0] rfl h
set_option maxRecDepth 20000 in
theorem w_X7_restore {f : zF} {K : Int32 → zF → Prop} {p1 : Int32} (h : ∀ X, kR X (zRi K) → ci mX7_in [.long (Int32.toInt64 p1), .long 0, .long 1] (zup f 52 0 0) (fun r1 f1 => ((¬ r1 = 0 → (vp_in p1 2 ∧ ((¬ (f1 60 (Int32.toNatClampNeg p1)) = 0 → Z X mX7_restore 32 [(0, .ref 52), (1, .int p1), (2, .int 0)] [] (zC f1)) ∧ ((f1 60 (Int32.toNatClampNeg p1)) = 0 → K (-1000002) f1)))) ∧ (r1 = 0 → K (-1000001) f1)))) : ci mX7_restore [.ref 52, .int p1] f K := by
  refine ci_of (by decide) (Nat.le_of_ble_eq_true rfl) (fun X hX => ?_)
  replace h := h X hX
  refine z_aload_n (pc := 0) dX7_restore_0 rfl ?_
  refine z_iconst (pc := 1) (v := 0) dX7_restore_1 ic_0 ?_
  refine k_puti (pc := 2) (j := 0) zc7 dX7_restore_2 fl_X7_41 (by decide) rfl rfl rfl (by decide) rfl ?_
  refine z_iload_n (pc := 5) dX7_restore_5 rfl ?_
  refine z_i2l (pc := 6) dX7_restore_6 ?_
  refine z_lconst (pc := 7) (v := 0) dX7_restore_7 rfl ?_
  refine z_lconst (pc := 8) (v := 1) dX7_restore_8 rfl ?_
  refine k_cSi (pc := 9) (av := [.long (Int32.toInt64 p1), .long 0, .long 1]) dX7_restore_9 lk_X7_51 rfl (by decide) (by decide) rfl h (fun r1 f1 h => ?_)
  refine z_if_ne (pc := 12) (t := 18) dX7_restore_12 (by decide) (fun c_12 => ?_) (fun c_12 => ?_)
  · replace h := h.1 c_12
    refine z_aload_n (pc := 18) dX7_restore_18 rfl ?_
    refine k_getr (pc := 19) (j := 21) zc7 dX7_restore_19 fl_X7_31 (by decide) rfl (by decide) rfl (k2 := 60) rfl ?_
    refine z_iload_n (pc := 22) dX7_restore_22 rfl ?_
    refine k_zald (pc := 23) (j := (Int32.toNatClampNeg p1)) (v := (f1 60 (Int32.toNatClampNeg p1))) dX7_restore_23 (by decide) rfl h.1 rfl rfl ?_
    replace h := h.2
    refine z_if_ne (pc := 24) (t := 30) dX7_restore_24 (by decide) (fun c_24 => ?_) (fun c_24 => ?_)
    · replace h := h.1 c_24
      refine z_iconst (pc := 30) (v := 0) dX7_restore_30 ic_0 ?_
      refine z_istore_n (pc := 31) (lv' := [(2, .int 0), (0, .ref 52), (1, .int p1)]) dX7_restore_31 (Nat.le_of_ble_eq_true rfl) rfl ?_
      exact z_sub [1, 2, 0] rfl h
    · replace h := h.2 c_24
      refine z_ldc (pc := 27) (v := -1000002) dX7_restore_27 co_X7_213 ?_
      exact k_iret (pc := 29) hX dX7_restore_29 rfl rfl h
  · replace h := h.2 c_12
    refine z_ldc (pc := 15) (v := -1000001) dX7_restore_15 co_X7_61 ?_
    exact k_iret (pc := 17) hX dX7_restore_17 rfl rfl h
set_option maxRecDepth 20000 in
theorem l_X7_restore_32 {X : zX} {f : zF} {K : Int32 → zF → Prop}  {x1 x2 : Int32}  (hX : kR X (zRi K)) (h : ((37 ≤ x2 → K 1 (zup f 52 8 0)) ∧ (¬ 37 ≤ x2 → (vp_in ((37 * x1) + x2) 74 ∧ (vp_in x2 37 ∧ Z X mX7_restore 32 [(0, .ref 52), (1, .int x1), (2, .int (x2 + 1))] [] (zC (zup f 56 (Int32.toNatClampNeg x2) (f 61 (Int32.toNatClampNeg ((37 * x1) + x2)))))))))) : Z X mX7_restore 32 [(0, .ref 52), (1, .int x1), (2, .int x2)] [] (zC f) := by
  refine z_iload_n (pc := 32) dX7_restore_32 rfl ?_
  refine z_bipush (pc := 33) (v := 37) dX7_restore_33 bi_37 ?_
  refine z_icmp_ge (pc := 35) (t := 61) dX7_restore_35 (by decide) (fun c_35 => ?_) (fun c_35 => ?_)
  · replace h := h.1 c_35
    refine z_aload_n (pc := 61) dX7_restore_61 rfl ?_
    refine z_iconst (pc := 62) (v := 0) dX7_restore_62 ic_0 ?_
    refine k_puti (pc := 63) (j := 8) zc7 dX7_restore_63 fl_X7_167 (by decide) rfl rfl rfl (by decide) rfl ?_
    refine z_iconst (pc := 66) (v := 1) dX7_restore_66 ic_1 ?_
    exact k_iret (pc := 67) hX dX7_restore_67 rfl rfl h
  · replace h := h.2 c_35
    refine z_aload_n (pc := 38) dX7_restore_38 rfl ?_
    refine k_getr (pc := 39) (j := 5) zc7 dX7_restore_39 fl_X7_19 (by decide) rfl (by decide) rfl (k2 := 56) rfl ?_
    refine z_iload_n (pc := 42) dX7_restore_42 rfl ?_
    refine z_aload_n (pc := 43) dX7_restore_43 rfl ?_
    refine k_getr (pc := 44) (j := 22) zc7 dX7_restore_44 fl_X7_35 (by decide) rfl (by decide) rfl (k2 := 61) rfl ?_
    refine z_bipush (pc := 47) (v := 37) dX7_restore_47 bi_37 ?_
    refine z_iload_n (pc := 49) dX7_restore_49 rfl ?_
    refine z_imul (pc := 50) dX7_restore_50 ?_
    refine z_iload_n (pc := 51) dX7_restore_51 rfl ?_
    refine z_iadd (pc := 52) dX7_restore_52 ?_
    refine k_iald (pc := 53) (j := (Int32.toNatClampNeg ((37 * x1) + x2))) (v := (f 61 (Int32.toNatClampNeg ((37 * x1) + x2)))) dX7_restore_53 (by decide) rfl h.1 rfl rfl ?_
    replace h := h.2
    refine k_iast (pc := 54) (j := (Int32.toNatClampNeg x2)) dX7_restore_54 (by decide) rfl h.1 rfl ?_
    replace h := h.2
    refine z_iinc (pc := 55) (v := (x2 + 1)) (lv' := [(2, .int (x2 + 1)), (0, .ref 52), (1, .int x1)]) dX7_restore_55 rfl (congrArg (fun z => x2 + z) ic_1) (Nat.le_of_ble_eq_true rfl) rfl ?_
    refine z_goto (pc := 58) (t := 32) dX7_restore_58 (by decide) ?_
    exact z_sub [1, 2, 0] rfl h
set_option maxRecDepth 20000 in
theorem w_X7_throughOf {f : zF} {K : Int32 → zF → Prop} {p1 : Int32} (h : ci mX7_kindOf [.ref 52, .int p1] f (fun r1 f1 => ((r1 = 3 → ci mX7_cellsOf [.ref 52, .int p1] f1 (fun r2 f2 => ci mX7_turned [.int r2] f2 (fun r3 f3 => K (r3 &&& 63) f3))) ∧ (r1 = 4 → ci mX7_cellsOf [.ref 52, .int p1] f1 (fun r4 f4 => K r4 f4)) ∧ (r1 = 5 → K 0 f1) ∧ (¬ r1 = 3 → ¬ r1 = 4 → ¬ r1 = 5 → ci mX7_cellsOf [.ref 52, .int p1] f1 (fun r5 f5 => ci mX7_turned [.int r5] f5 (fun r6 f6 => K r6 f6)))))) : ci mX7_throughOf [.ref 52, .int p1] f K := by
  refine ci_of (by decide) (Nat.le_of_ble_eq_true rfl) (fun X hX => ?_)
  refine z_aload_n (pc := 0) dX7_throughOf_0 rfl ?_
  refine z_iload_n (pc := 1) dX7_throughOf_1 rfl ?_
  refine k_cVi (pc := 2) (av := [.int p1]) zc7 rfl dX7_throughOf_2 lk_X7_173 rfl (by decide) (by decide) (by decide) rfl rfl h (fun r1 f1 h => ?_)
  refine z_tsw3_3 (pc := 5) 38 32 50 52 dX7_throughOf_5 rfl (by decide) (by decide) (fun c_5_0 => ?_) (fun c_5_1 => ?_) (fun c_5_2 => ?_) (fun c_5_0 c_5_1 c_5_2 => ?_)
  · replace h := h.1 c_5_0
    refine z_aload_n (pc := 38) dX7_throughOf_38 rfl ?_
    refine z_iload_n (pc := 39) dX7_throughOf_39 rfl ?_
    refine k_cVi (pc := 40) (av := [.int p1]) zc7 rfl dX7_throughOf_40 lk_X7_176 rfl (by decide) (by decide) (by decide) rfl rfl h (fun r2 f2 h => ?_)
    refine k_cSi (pc := 43) (av := [.int r2]) dX7_throughOf_43 lk_X7_179 rfl (by decide) (by decide) rfl h (fun r3 f3 h => ?_)
    refine z_bipush (pc := 46) (v := 63) dX7_throughOf_46 bi_63 ?_
    refine z_iand (pc := 48) dX7_throughOf_48 ?_
    exact k_iret (pc := 49) hX dX7_throughOf_49 rfl rfl h
  · replace h := h.2.1 c_5_1
    refine z_aload_n (pc := 32) dX7_throughOf_32 rfl ?_
    refine z_iload_n (pc := 33) dX7_throughOf_33 rfl ?_
    refine k_cVi (pc := 34) (av := [.int p1]) zc7 rfl dX7_throughOf_34 lk_X7_176 rfl (by decide) (by decide) (by decide) rfl rfl h (fun r4 f4 h => ?_)
    exact k_iret (pc := 37) hX dX7_throughOf_37 rfl rfl h
  · replace h := h.2.2.1 c_5_2
    refine z_iconst (pc := 50) (v := 0) dX7_throughOf_50 ic_0 ?_
    exact k_iret (pc := 51) hX dX7_throughOf_51 rfl rfl h
  · replace h := h.2.2.2 c_5_0 c_5_1 c_5_2
    refine z_aload_n (pc := 52) dX7_throughOf_52 rfl ?_
    refine z_iload_n (pc := 53) dX7_throughOf_53 rfl ?_
    refine k_cVi (pc := 54) (av := [.int p1]) zc7 rfl dX7_throughOf_54 lk_X7_176 rfl (by decide) (by decide) (by decide) rfl rfl h (fun r5 f5 h => ?_)
    refine k_cSi (pc := 57) (av := [.int r5]) dX7_throughOf_57 lk_X7_179 rfl (by decide) (by decide) rfl h (fun r6 f6 h => ?_)
    exact k_iret (pc := 60) hX dX7_throughOf_60 rfl rfl h
set_option maxRecDepth 20000 in
theorem w_X7_trace {f : zF} {K : Int32 → zF → Prop} {p1 : Int32} (h : ci mX7_in [.long (Int32.toInt64 p1), .long 0, .long (Int32.toInt64 ((f 52 24) - 1))] (zup f 52 0 0) (fun r1 f1 => ((r1 = 0 → K (-1000000) f1) ∧ (¬ r1 = 0 → (vp_in p1 16 ∧ K (f1 62 (Int32.toNatClampNeg p1)) f1))))) : ci mX7_trace [.ref 52, .int p1] f K := by
  refine ci_of (by decide) (Nat.le_of_ble_eq_true rfl) (fun X hX => ?_)
  refine z_aload_n (pc := 0) dX7_trace_0 rfl ?_
  refine z_iconst (pc := 1) (v := 0) dX7_trace_1 ic_0 ?_
  refine k_puti (pc := 2) (j := 0) zc7 dX7_trace_2 fl_X7_41 (by decide) rfl rfl rfl (by decide) rfl ?_
  refine z_iload_n (pc := 5) dX7_trace_5 rfl ?_
  refine z_i2l (pc := 6) dX7_trace_6 ?_
  refine z_lconst (pc := 7) (v := 0) dX7_trace_7 rfl ?_
  refine z_aload_n (pc := 8) dX7_trace_8 rfl ?_
  refine k_geti (pc := 9) (j := 24) zc7 dX7_trace_9 fl_X7_248 (by decide) rfl (by decide) rfl (v := (f 52 24)) rfl ?_
  refine z_iconst (pc := 12) (v := 1) dX7_trace_12 ic_1 ?_
  refine z_isub (pc := 13) dX7_trace_13 ?_
  refine z_i2l (pc := 14) dX7_trace_14 ?_
  refine k_cSi (pc := 15) (av := [.long (Int32.toInt64 p1), .long 0, .long (Int32.toInt64 ((f 52 24) - 1))]) dX7_trace_15 lk_X7_51 rfl (by decide) (by decide) rfl h (fun r1 f1 h => ?_)
  refine z_if_eq (pc := 18) (t := 30) dX7_trace_18 (by decide) (fun c_18 => ?_) (fun c_18 => ?_)
  · replace h := h.1 c_18
    refine z_ldc (pc := 30) (v := -1000000) dX7_trace_30 co_X7_77 ?_
    exact k_iret (pc := 32) hX dX7_trace_32 rfl rfl h
  · replace h := h.2 c_18
    refine z_aload_n (pc := 21) dX7_trace_21 rfl ?_
    refine k_getr (pc := 22) (j := 23) zc7 dX7_trace_22 fl_X7_38 (by decide) rfl (by decide) rfl (k2 := 62) rfl ?_
    refine z_iload_n (pc := 25) dX7_trace_25 rfl ?_
    refine k_iald (pc := 26) (j := (Int32.toNatClampNeg p1)) (v := (f1 62 (Int32.toNatClampNeg p1))) dX7_trace_26 (by decide) rfl h.1 rfl rfl ?_
    replace h := h.2
    refine z_goto (pc := 27) (t := 32) dX7_trace_27 (by decide) ?_
    exact k_iret (pc := 32) hX dX7_trace_32 rfl rfl h
set_option maxRecDepth 20000 in
theorem w_X7_turn {f : zF} {K : Int32 → zF → Prop}  (h : ∀ X, kR X (zRi K) → ci mX7_isThere [.ref 52] (zup f 52 0 0) (fun r1 f1 => ((¬ r1 = 0 → cv mX7_keep [.ref 52] f1 (fun f2 => Z X mX7_turn 21 [(0, .ref 52), (1, .int 0)] [] (zC f2))) ∧ (r1 = 0 → K (-1000002) f1)))) : ci mX7_turn [.ref 52] f K := by
  refine ci_of (by decide) (Nat.le_of_ble_eq_true rfl) (fun X hX => ?_)
  replace h := h X hX
  refine z_aload_n (pc := 0) dX7_turn_0 rfl ?_
  refine z_iconst (pc := 1) (v := 0) dX7_turn_1 ic_0 ?_
  refine k_puti (pc := 2) (j := 0) zc7 dX7_turn_2 fl_X7_41 (by decide) rfl rfl rfl (by decide) rfl ?_
  refine z_aload_n (pc := 5) dX7_turn_5 rfl ?_
  refine k_cVi (pc := 6) (av := []) zc7 rfl dX7_turn_6 lk_X7_209 rfl (by decide) (by decide) (by decide) rfl rfl h (fun r1 f1 h => ?_)
  refine z_if_ne (pc := 9) (t := 15) dX7_turn_9 (by decide) (fun c_9 => ?_) (fun c_9 => ?_)
  · replace h := h.1 c_9
    refine z_aload_n (pc := 15) dX7_turn_15 rfl ?_
    refine k_cVv (pc := 16) (av := []) zc7 rfl dX7_turn_16 lk_X7_206 rfl (by decide) (by decide) (by decide) rfl rfl h (fun f2 h => ?_)
    refine z_iconst (pc := 19) (v := 0) dX7_turn_19 ic_0 ?_
    refine z_istore_n (pc := 20) (lv' := [(1, .int 0), (0, .ref 52)]) dX7_turn_20 (Nat.le_of_ble_eq_true rfl) rfl ?_
    exact z_sub [1, 0] rfl h
  · replace h := h.2 c_9
    refine z_ldc (pc := 12) (v := -1000002) dX7_turn_12 co_X7_213 ?_
    exact k_iret (pc := 14) hX dX7_turn_14 rfl rfl h
set_option maxRecDepth 20000 in
theorem l_X7_turn_21 {X : zX} {f : zF} {K : Int32 → zF → Prop}  {x1 : Int32}  (hX : kR X (zRi K)) (h : ((9 ≤ x1 → K (f 56 2) f) ∧ (¬ 9 ≤ x1 → (vp_in (19 + x1) 37 ∧ (vp_in (28 + x1) 37 ∧ (vp_in (19 + x1) 37 ∧ (vp_in (28 + x1) 37 ∧ Z X mX7_turn 21 [(0, .ref 52), (1, .int (x1 + 1))] [] (zC (zup (zup f 56 (Int32.toNatClampNeg (19 + x1)) (f 56 (Int32.toNatClampNeg (28 + x1)))) 56 (Int32.toNatClampNeg (28 + x1)) (f 56 (Int32.toNatClampNeg (19 + x1)))))))))))) : Z X mX7_turn 21 [(0, .ref 52), (1, .int x1)] [] (zC f) := by
  refine z_iload_n (pc := 21) dX7_turn_21 rfl ?_
  refine z_bipush (pc := 22) (v := 9) dX7_turn_22 bi_9 ?_
  refine z_icmp_ge (pc := 24) (t := 71) dX7_turn_24 (by decide) (fun c_24 => ?_) (fun c_24 => ?_)
  · replace h := h.1 c_24
    refine z_aload_n (pc := 71) dX7_turn_71 rfl ?_
    refine k_getr (pc := 72) (j := 5) zc7 dX7_turn_72 fl_X7_19 (by decide) rfl (by decide) rfl (k2 := 56) rfl ?_
    refine z_iconst (pc := 75) (v := 2) dX7_turn_75 ic_2 ?_
    refine k_iald (pc := 76) (j := 2) (v := (f 56 2)) dX7_turn_76 (by decide) rfl (by unfold vp_in; decide) (by decide) rfl ?_
    exact k_iret (pc := 77) hX dX7_turn_77 rfl rfl h
  · replace h := h.2 c_24
    refine z_aload_n (pc := 27) dX7_turn_27 rfl ?_
    refine k_getr (pc := 28) (j := 5) zc7 dX7_turn_28 fl_X7_19 (by decide) rfl (by decide) rfl (k2 := 56) rfl ?_
    refine z_bipush (pc := 31) (v := 19) dX7_turn_31 bi_19 ?_
    refine z_iload_n (pc := 33) dX7_turn_33 rfl ?_
    refine z_iadd (pc := 34) dX7_turn_34 ?_
    refine k_iald (pc := 35) (j := (Int32.toNatClampNeg (19 + x1))) (v := (f 56 (Int32.toNatClampNeg (19 + x1)))) dX7_turn_35 (by decide) rfl h.1 rfl rfl ?_
    replace h := h.2
    refine z_istore_n (pc := 36) (lv' := [(2, .int (f 56 (Int32.toNatClampNeg (19 + x1)))), (0, .ref 52), (1, .int x1)]) dX7_turn_36 (Nat.le_of_ble_eq_true rfl) rfl ?_
    refine z_aload_n (pc := 37) dX7_turn_37 rfl ?_
    refine k_getr (pc := 38) (j := 5) zc7 dX7_turn_38 fl_X7_19 (by decide) rfl (by decide) rfl (k2 := 56) rfl ?_
    refine z_bipush (pc := 41) (v := 19) dX7_turn_41 bi_19 ?_
    refine z_iload_n (pc := 43) dX7_turn_43 rfl ?_
    refine z_iadd (pc := 44) dX7_turn_44 ?_
    refine z_aload_n (pc := 45) dX7_turn_45 rfl ?_
    refine k_getr (pc := 46) (j := 5) zc7 dX7_turn_46 fl_X7_19 (by decide) rfl (by decide) rfl (k2 := 56) rfl ?_
    refine z_bipush (pc := 49) (v := 28) dX7_turn_49 bi_28 ?_
    refine z_iload_n (pc := 51) dX7_turn_51 rfl ?_
    refine z_iadd (pc := 52) dX7_turn_52 ?_
    refine k_iald (pc := 53) (j := (Int32.toNatClampNeg (28 + x1))) (v := (f 56 (Int32.toNatClampNeg (28 + x1)))) dX7_turn_53 (by decide) rfl h.1 rfl rfl ?_
    replace h := h.2
    refine k_iast (pc := 54) (j := (Int32.toNatClampNeg (19 + x1))) dX7_turn_54 (by decide) rfl h.1 rfl ?_
    replace h := h.2
    refine z_aload_n (pc := 55) dX7_turn_55 rfl ?_
    refine k_getr (pc := 56) (j := 5) zc7 dX7_turn_56 fl_X7_19 (by decide) rfl (by decide) rfl (k2 := 56) rfl ?_
    refine z_bipush (pc := 59) (v := 28) dX7_turn_59 bi_28 ?_
    refine z_iload_n (pc := 61) dX7_turn_61 rfl ?_
    refine z_iadd (pc := 62) dX7_turn_62 ?_
    refine z_iload_n (pc := 63) dX7_turn_63 rfl ?_
    refine k_iast (pc := 64) (j := (Int32.toNatClampNeg (28 + x1))) dX7_turn_64 (by decide) rfl h.1 rfl ?_
    replace h := h.2
    refine z_iinc (pc := 65) (v := (x1 + 1)) (lv' := [(1, .int (x1 + 1)), (2, .int (f 56 (Int32.toNatClampNeg (19 + x1)))), (0, .ref 52)]) dX7_turn_65 rfl (congrArg (fun z => x1 + z) ic_1) (Nat.le_of_ble_eq_true rfl) rfl ?_
    refine z_goto (pc := 68) (t := 21) dX7_turn_68 (by decide) ?_
    exact z_sub [2, 0] rfl h
set_option maxRecDepth 20000 in
theorem w_J1_charAt_3b067 {f : zF} {K : Int32 → zF → Prop} {w : Nat} {p2 : Int32} (hw : w < 8) (h : cv mJ0_checkIndex_df160 [.int p2, .int (nI (zLen.getD w 0))] f (fun f1 => (vp_in p2 (zLen.getD w 0) ∧ (∀ z2 : Int32, z2 = (((zByt.getD w []).getD (Int32.toNatClampNeg p2) 0) &&& 255) → (narrow .char (.int ((Int32.toUInt32 z2 % 65536).toInt32)) = .int ((Int32.toUInt32 z2 % 65536).toInt32) ∧ K ((Int32.toUInt32 z2 % 65536).toInt32) f1))))) : ci mJ1_charAt_3b067 [.ref (1100 + w), .int p2] f K := by
  refine ci_of (by decide) (Nat.le_of_ble_eq_true rfl) (fun X hX => ?_)
  refine z_iload_n (pc := 0) dJ1_charAt_3b067_0 rfl ?_
  refine z_aload_n (pc := 1) dJ1_charAt_3b067_1 rfl ?_
  refine z_alenS (pc := 2) dJ1_charAt_3b067_2 hw rfl ?_
  refine k_cSv (pc := 3) (av := [.int p2, .int (nI (zLen.getD w 0))]) dJ1_charAt_3b067_3 lk_J1_9 rfl (by decide) (by decide) rfl h (fun f1 h => ?_)
  refine z_aload_n (pc := 6) dJ1_charAt_3b067_6 rfl ?_
  refine z_iload_n (pc := 7) dJ1_charAt_3b067_7 rfl ?_
  refine z_baldS (pc := 8) dJ1_charAt_3b067_8 hw h.1 ?_
  replace h := h.2
  refine z_sipush (pc := 9) (v := 255) dJ1_charAt_3b067_9 si_255 ?_
  refine z_iand (pc := 12) dJ1_charAt_3b067_12 ?_
  refine z_name (fun z2 e_z2 => ?_)
  replace h := h z2 e_z2
  refine z_i2c (pc := 13) dJ1_charAt_3b067_13 ?_
  exact k_iret (pc := 14) hX dJ1_charAt_3b067_14 rfl h.1 h.2
set_option maxRecDepth 20000 in
theorem w_X1_markOfAny {f : zF} {K : Int32 → zF → Prop} {p1 : Int32} (h : cv mX1_begin [.ref 22, .int 20] f (fun f1 => K p1 f1)) : ci mX1_markOfAny [.ref 22, .int p1] f K := by
  refine ci_of (by decide) (Nat.le_of_ble_eq_true rfl) (fun X hX => ?_)
  refine z_aload_n (pc := 0) dX1_markOfAny_0 rfl ?_
  refine z_bipush (pc := 1) (v := 20) dX1_markOfAny_1 bi_20 ?_
  refine k_cVv (pc := 3) (av := [.int 20]) zc1 rfl dX1_markOfAny_3 lk_X1_47 rfl (by decide) (by decide) (by decide) rfl rfl h (fun f1 h => ?_)
  refine z_iload_n (pc := 6) dX1_markOfAny_6 rfl ?_
  exact k_iret (pc := 7) hX dX1_markOfAny_7 rfl rfl h
set_option maxRecDepth 20000 in
theorem w_X1_sizeOfAny {f : zF} {K : Int32 → zF → Prop} {p2 : Int32} (h : cv mX1_begin [.ref 22, .int 10] f (fun f1 => ci mX2_cellsOf [.ref 12, .int p2] f1 (fun r2 f2 => ci mJ6_bitCount_0f7a4 [.int r2] f2 (fun r3 f3 => K r3 f3)))) : ci mX1_sizeOfAny [.ref 22, .ref 12, .int p2] f K := by
  refine ci_of (by decide) (Nat.le_of_ble_eq_true rfl) (fun X hX => ?_)
  refine z_aload_n (pc := 0) dX1_sizeOfAny_0 rfl ?_
  refine z_bipush (pc := 1) (v := 10) dX1_sizeOfAny_1 bi_10 ?_
  refine k_cVv (pc := 3) (av := [.int 10]) zc1 rfl dX1_sizeOfAny_3 lk_X1_47 rfl (by decide) (by decide) (by decide) rfl rfl h (fun f1 h => ?_)
  refine z_aload_n (pc := 6) dX1_sizeOfAny_6 rfl ?_
  refine z_iload_n (pc := 7) dX1_sizeOfAny_7 rfl ?_
  refine k_cVi (pc := 8) (av := [.int p2]) zc2 rfl dX1_sizeOfAny_8 lk_X1_51 rfl (by decide) (by decide) (by decide) rfl rfl h (fun r2 f2 h => ?_)
  refine k_cSi (pc := 11) (av := [.int r2]) dX1_sizeOfAny_11 lk_X1_54 rfl (by decide) (by decide) rfl h (fun r3 f3 h => ?_)
  exact k_iret (pc := 14) hX dX1_sizeOfAny_14 rfl rfl h
set_option maxRecDepth 20000 in
theorem w_X2_addLetter {f : zF} {K : zF → Prop} {k : Nat} {p1 : Int32} {p2 : Int32} (hk : isPage k) (h : cv mX6_putItem [.ref (k + 2), .int (f k 1), .int p1] f (fun f1 => cv mX6_putItem [.ref (k + 1), .int (f1 k 1), .int p2] f1 (fun f2 => ci mX2_throughFor [.int p1, .int p2] f2 (fun r3 f3 => cv mX6_putItem [.ref (k + 3), .int (f2 k 1), .int r3] f3 (fun f4 => K (zup f4 k 1 ((f4 k 1) + 1))))))) : cv mX2_addLetter [.ref k, .int p1, .int p2] f K := by
  refine cv_of (by decide) (Nat.le_of_ble_eq_true rfl) (fun X hX => ?_)
  refine z_aload_n (pc := 0) dX2_addLetter_0 rfl ?_
  refine k_getr (pc := 1) (j := 4) zc2 dX2_addLetter_1 fl_X2_15 (by decide) rfl (pg_lt hk) (pg_sh hk) (pg_rf2 hk) ?_
  refine z_aload_n (pc := 4) dX2_addLetter_4 rfl ?_
  refine k_geti (pc := 5) (j := 1) zc2 dX2_addLetter_5 fl_X2_27 (by decide) rfl (pg_lt hk) (pg_sh hk) (v := (f k 1)) rfl ?_
  refine z_iload_n (pc := 8) dX2_addLetter_8 rfl ?_
  refine k_cSv (pc := 9) (av := [.ref (k + 2), .int (f k 1), .int p1]) dX2_addLetter_9 lk_X2_41 rfl (by decide) (by decide) rfl h (fun f1 h => ?_)
  refine z_aload_n (pc := 12) dX2_addLetter_12 rfl ?_
  refine k_getr (pc := 13) (j := 3) zc2 dX2_addLetter_13 fl_X2_9 (by decide) rfl (pg_lt hk) (pg_sh hk) (pg_rf1 hk) ?_
  refine z_aload_n (pc := 16) dX2_addLetter_16 rfl ?_
  refine k_geti (pc := 17) (j := 1) zc2 dX2_addLetter_17 fl_X2_27 (by decide) rfl (pg_lt hk) (pg_sh hk) (v := (f1 k 1)) rfl ?_
  refine z_iload_n (pc := 20) dX2_addLetter_20 rfl ?_
  refine k_cSv (pc := 21) (av := [.ref (k + 1), .int (f1 k 1), .int p2]) dX2_addLetter_21 lk_X2_41 rfl (by decide) (by decide) rfl h (fun f2 h => ?_)
  refine z_aload_n (pc := 24) dX2_addLetter_24 rfl ?_
  refine k_getr (pc := 25) (j := 5) zc2 dX2_addLetter_25 fl_X2_18 (by decide) rfl (pg_lt hk) (pg_sh hk) (pg_rf3 hk) ?_
  refine z_aload_n (pc := 28) dX2_addLetter_28 rfl ?_
  refine k_geti (pc := 29) (j := 1) zc2 dX2_addLetter_29 fl_X2_27 (by decide) rfl (pg_lt hk) (pg_sh hk) (v := (f2 k 1)) rfl ?_
  refine z_iload_n (pc := 32) dX2_addLetter_32 rfl ?_
  refine z_iload_n (pc := 33) dX2_addLetter_33 rfl ?_
  refine k_cSi (pc := 34) (av := [.int p1, .int p2]) dX2_addLetter_34 lk_X2_45 rfl (by decide) (by decide) rfl h (fun r3 f3 h => ?_)
  refine k_cSv (pc := 37) (av := [.ref (k + 3), .int (f2 k 1), .int r3]) dX2_addLetter_37 lk_X2_41 rfl (by decide) (by decide) rfl h (fun f4 h => ?_)
  refine z_aload_n (pc := 40) dX2_addLetter_40 rfl ?_
  refine z_dup (pc := 41) dX2_addLetter_41 rfl ?_
  refine k_geti (pc := 42) (j := 1) zc2 dX2_addLetter_42 fl_X2_27 (by decide) rfl (pg_lt hk) (pg_sh hk) (v := (f4 k 1)) rfl ?_
  refine z_iconst (pc := 45) (v := 1) dX2_addLetter_45 ic_1 ?_
  refine z_iadd (pc := 46) dX2_addLetter_46 ?_
  refine k_puti (pc := 47) (j := 1) zc2 dX2_addLetter_47 fl_X2_27 (by decide) rfl rfl rfl (pg_lt hk) (pg_sh hk) ?_
  exact k_vret (pc := 50) hX dX2_addLetter_50 rfl h
set_option maxRecDepth 20000 in
theorem w_X2_canBeABack {f : zF} {K : Int32 → zF → Prop} {k : Nat} {k1 : Nat} (hk : isPage k) (hk1 : isRow k1) (h : ∀ X, kR X (zRi K) → ci mX4_isMissing [.ref k1] f (fun r1 f1 => ((¬ r1 = 0 → K 0 f1) ∧ (r1 = 0 → (((f1 k 2) ≤ (f1 k1 2) → Z X mX2_canBeABack 22 [(0, .ref k), (1, .ref k1), (2, .int 0)] [] (zC f1)) ∧ (¬ (f1 k 2) ≤ (f1 k1 2) → K 0 f1)))))) : ci mX2_canBeABack [.ref k, .ref k1] f K := by
  refine ci_of (by decide) (Nat.le_of_ble_eq_true rfl) (fun X hX => ?_)
  replace h := h X hX
  refine z_aload_n (pc := 0) dX2_canBeABack_0 rfl ?_
  refine k_cVi (pc := 1) (av := []) zc4 rfl dX2_canBeABack_1 lk_X2_98 rfl (by decide) (by decide) (rw_lt hk1) (rw_sh hk1) rfl h (fun r1 f1 h => ?_)
  refine z_if_ne (pc := 4) (t := 18) dX2_canBeABack_4 (by decide) (fun c_4 => ?_) (fun c_4 => ?_)
  · replace h := h.1 c_4
    refine z_iconst (pc := 18) (v := 0) dX2_canBeABack_18 ic_0 ?_
    exact k_iret (pc := 19) hX dX2_canBeABack_19 rfl rfl h
  · replace h := h.2 c_4
    refine z_aload_n (pc := 7) dX2_canBeABack_7 rfl ?_
    refine k_geti (pc := 8) (j := 2) zc4 dX2_canBeABack_8 fl_X2_104 (by decide) rfl (rw_lt hk1) (rw_sh hk1) (v := (f1 k1 2)) rfl ?_
    refine z_aload_n (pc := 11) dX2_canBeABack_11 rfl ?_
    refine k_geti (pc := 12) (j := 2) zc2 dX2_canBeABack_12 fl_X2_31 (by decide) rfl (pg_lt hk) (pg_sh hk) (v := (f1 k 2)) rfl ?_
    refine z_icmp_ge (pc := 15) (t := 20) dX2_canBeABack_15 (by decide) (fun c_15 => ?_) (fun c_15 => ?_)
    · replace h := h.1 c_15
      refine z_iconst (pc := 20) (v := 0) dX2_canBeABack_20 ic_0 ?_
      refine z_istore_n (pc := 21) (lv' := [(2, .int 0), (0, .ref k), (1, .ref k1)]) dX2_canBeABack_21 (Nat.le_of_ble_eq_true rfl) rfl ?_
      exact z_sub [1, 2, 0] rfl h
    · replace h := h.2 c_15
      refine z_iconst (pc := 18) (v := 0) dX2_canBeABack_18 ic_0 ?_
      exact k_iret (pc := 19) hX dX2_canBeABack_19 rfl rfl h
set_option maxRecDepth 20000 in
theorem l_X2_canBeABack_22 {X : zX} {f : zF} {K : Int32 → zF → Prop} {k : Nat} {k1 : Nat} (hk : isPage k) (hk1 : isRow k1) {x2 : Int32}  (hX : kR X (zRi K)) (h : (((f k 2) ≤ x2 → K 1 f) ∧ (¬ (f k 2) ≤ x2 → ci mX4_itemAt [.ref k1, .int x2] f (fun r102 f102 => ci mX2_hasLetter [.ref k, .int r102] f102 (fun r103 f103 => ((¬ r103 = 0 → Z X mX2_canBeABack 22 [(0, .ref k), (1, .ref k1), (2, .int (x2 + 1))] [] (zC f103)) ∧ (r103 = 0 → K 0 f103))))))) : Z X mX2_canBeABack 22 [(0, .ref k), (1, .ref k1), (2, .int x2)] [] (zC f) := by
  refine z_iload_n (pc := 22) dX2_canBeABack_22 rfl ?_
  refine z_aload_n (pc := 23) dX2_canBeABack_23 rfl ?_
  refine k_geti (pc := 24) (j := 2) zc2 dX2_canBeABack_24 fl_X2_31 (by decide) rfl (pg_lt hk) (pg_sh hk) (v := (f k 2)) rfl ?_
  refine z_icmp_ge (pc := 27) (t := 50) dX2_canBeABack_27 (by decide) (fun c_27 => ?_) (fun c_27 => ?_)
  · replace h := h.1 c_27
    refine z_iconst (pc := 50) (v := 1) dX2_canBeABack_50 ic_1 ?_
    exact k_iret (pc := 51) hX dX2_canBeABack_51 rfl rfl h
  · replace h := h.2 c_27
    refine z_aload_n (pc := 30) dX2_canBeABack_30 rfl ?_
    refine z_aload_n (pc := 31) dX2_canBeABack_31 rfl ?_
    refine z_iload_n (pc := 32) dX2_canBeABack_32 rfl ?_
    refine k_cVi (pc := 33) (av := [.int x2]) zc4 rfl dX2_canBeABack_33 lk_X2_107 rfl (by decide) (by decide) (rw_lt hk1) (rw_sh hk1) rfl h (fun r102 f102 h => ?_)
    refine k_cVi (pc := 36) (av := [.int r102]) zc2 rfl dX2_canBeABack_36 lk_X2_110 rfl (by decide) (by decide) (pg_lt hk) (pg_sh hk) rfl h (fun r103 f103 h => ?_)
    refine z_if_ne (pc := 39) (t := 44) dX2_canBeABack_39 (by decide) (fun c_39 => ?_) (fun c_39 => ?_)
    · replace h := h.1 c_39
      refine z_iinc (pc := 44) (v := (x2 + 1)) (lv' := [(2, .int (x2 + 1)), (0, .ref k), (1, .ref k1)]) dX2_canBeABack_44 rfl (congrArg (fun z => x2 + z) ic_1) (Nat.le_of_ble_eq_true rfl) rfl ?_
      refine z_goto (pc := 47) (t := 22) dX2_canBeABack_47 (by decide) ?_
      exact z_sub [1, 2, 0] rfl h
    · replace h := h.2 c_39
      refine z_iconst (pc := 42) (v := 0) dX2_canBeABack_42 ic_0 ?_
      exact k_iret (pc := 43) hX dX2_canBeABack_43 rfl rfl h
set_option maxRecDepth 20000 in
theorem w_X2_fitting {f : zF} {K : Int32 → zF → Prop} {k : Nat} {p1 : Int32} {p2 : Int32} (hk : isPage k) (h : ∀ X, kR X (zRi K) → Z X mX2_fitting 5 [(0, .ref k), (1, .int p1), (2, .int p2), (3, .int 0), (4, .int 0)] [] (zC f)) : ci mX2_fitting [.ref k, .int p1, .int p2] f K := by
  refine ci_of (by decide) (Nat.le_of_ble_eq_true rfl) (fun X hX => ?_)
  replace h := h X hX
  refine z_iconst (pc := 0) (v := 0) dX2_fitting_0 ic_0 ?_
  refine z_istore_n (pc := 1) (lv' := [(3, .int 0), (0, .ref k), (1, .int p1), (2, .int p2)]) dX2_fitting_1 (Nat.le_of_ble_eq_true rfl) rfl ?_
  refine z_iconst (pc := 2) (v := 0) dX2_fitting_2 ic_0 ?_
  refine z_istore (pc := 3) (lv' := [(4, .int 0), (3, .int 0), (0, .ref k), (1, .int p1), (2, .int p2)]) dX2_fitting_3 (Nat.le_of_ble_eq_true rfl) rfl ?_
  exact z_sub [2, 3, 4, 1, 0] rfl h
set_option maxRecDepth 20000 in
theorem l_X2_fitting_5 {X : zX} {f : zF} {K : Int32 → zF → Prop} {k : Nat} (hk : isPage k) {x1 x2 x3 x4 : Int32}  (hX : kR X (zRi K)) (h : (((f k 1) ≤ x4 → K x3 f) ∧ (¬ (f k 1) ≤ x4 → ci mX2_letterAt [.ref k, .int 0, .int x1] f (fun r101 f101 => ci mX2_shownOf [.ref k, .int r101, .int x4] f101 (fun r102 f102 => ((¬ r102 = x2 → Z X mX2_fitting 5 [(0, .ref k), (1, .int x1), (2, .int x2), (3, .int x3), (4, .int (x4 + 1))] [] (zC f102)) ∧ (r102 = x2 → Z X mX2_fitting 5 [(0, .ref k), (1, .int x1), (2, .int x2), (3, .int (x3 ||| (1 <<< (x4 &&& 31)))), (4, .int (x4 + 1))] [] (zC f102)))))))) : Z X mX2_fitting 5 [(0, .ref k), (1, .int x1), (2, .int x2), (3, .int x3), (4, .int x4)] [] (zC f) := by
  refine z_iload (pc := 5) dX2_fitting_5 rfl ?_
  refine z_aload_n (pc := 7) dX2_fitting_7 rfl ?_
  refine k_geti (pc := 8) (j := 1) zc2 dX2_fitting_8 fl_X2_27 (by decide) rfl (pg_lt hk) (pg_sh hk) (v := (f k 1)) rfl ?_
  refine z_icmp_ge (pc := 11) (t := 43) dX2_fitting_11 (by decide) (fun c_11 => ?_) (fun c_11 => ?_)
  · replace h := h.1 c_11
    refine z_iload_n (pc := 43) dX2_fitting_43 rfl ?_
    exact k_iret (pc := 44) hX dX2_fitting_44 rfl rfl h
  · replace h := h.2 c_11
    refine z_aload_n (pc := 14) dX2_fitting_14 rfl ?_
    refine z_aload_n (pc := 15) dX2_fitting_15 rfl ?_
    refine z_iconst (pc := 16) (v := 0) dX2_fitting_16 ic_0 ?_
    refine z_iload_n (pc := 17) dX2_fitting_17 rfl ?_
    refine k_cVi (pc := 18) (av := [.int 0, .int x1]) zc2 rfl dX2_fitting_18 lk_X2_49 rfl (by decide) (by decide) (pg_lt hk) (pg_sh hk) rfl h (fun r101 f101 h => ?_)
    refine z_iload (pc := 21) dX2_fitting_21 rfl ?_
    refine k_cVi (pc := 23) (av := [.int r101, .int x4]) zc2 rfl dX2_fitting_23 lk_X2_63 rfl (by decide) (by decide) (pg_lt hk) (pg_sh hk) rfl h (fun r102 f102 h => ?_)
    refine z_iload_n (pc := 26) dX2_fitting_26 rfl ?_
    refine z_icmp_ne (pc := 27) (t := 37) dX2_fitting_27 (by decide) (fun c_27 => ?_) (fun c_27 => ?_)
    · replace h := h.1 c_27
      refine z_iinc (pc := 37) (v := (x4 + 1)) (lv' := [(4, .int (x4 + 1)), (0, .ref k), (1, .int x1), (2, .int x2), (3, .int x3)]) dX2_fitting_37 rfl (congrArg (fun z => x4 + z) ic_1) (Nat.le_of_ble_eq_true rfl) rfl ?_
      refine z_goto (pc := 40) (t := 5) dX2_fitting_40 (by decide) ?_
      exact z_sub [1, 2, 3, 4, 0] rfl h
    · replace h := h.2 c_27
      refine z_iload_n (pc := 30) dX2_fitting_30 rfl ?_
      refine z_iconst (pc := 31) (v := 1) dX2_fitting_31 ic_1 ?_
      refine z_iload (pc := 32) dX2_fitting_32 rfl ?_
      refine z_ishl (pc := 34) dX2_fitting_34 ?_
      refine z_ior (pc := 35) dX2_fitting_35 ?_
      refine z_istore_n (pc := 36) (lv' := [(3, .int (x3 ||| (1 <<< (x4 &&& 31)))), (0, .ref k), (1, .int x1), (2, .int x2), (4, .int x4)]) dX2_fitting_36 (Nat.le_of_ble_eq_true rfl) rfl ?_
      refine z_iinc (pc := 37) (v := (x4 + 1)) (lv' := [(4, .int (x4 + 1)), (3, .int (x3 ||| (1 <<< (x4 &&& 31)))), (0, .ref k), (1, .int x1), (2, .int x2)]) dX2_fitting_37 rfl (congrArg (fun z => x4 + z) ic_1) (Nat.le_of_ble_eq_true rfl) rfl ?_
      refine z_goto (pc := 40) (t := 5) dX2_fitting_40 (by decide) ?_
      exact z_sub [2, 3, 4, 1, 0] rfl h
set_option maxRecDepth 20000 in
theorem w_X2_letterBehind {f : zF} {K : Int32 → zF → Prop} {k : Nat} {p1 : Int32} {p2 : Int32} (hk : isPage k) (h : (∀ z1 : Int32, z1 = (if p1 = 0 then 1 else 0) → ci mX2_letterAt [.ref k, .int z1, .int (((f k 2) - 1) - p2)] f (fun r2 f2 => K r2 f2))) : ci mX2_letterBehind [.ref k, .int p1, .int p2] f K := by
  refine ci_of (by decide) (Nat.le_of_ble_eq_true rfl) (fun X hX => ?_)
  refine z_aload_n (pc := 0) dX2_letterBehind_0 rfl ?_
  refine z_iload_n (pc := 1) dX2_letterBehind_1 rfl ?_
  suffices hm3 : Z X mX2_letterBehind 10 [(0, .ref k), (1, .int p1), (2, .int p2)] [.int (if p1 = 0 then 1 else 0), .ref k] (zC f) by
    refine z_if_ne (pc := 2) (t := 9) dX2_letterBehind_2 (by decide) (fun c_2 => ?_) (fun c_2 => ?_)
    · rw [if_neg c_2] at hm3
      refine z_iconst (pc := 9) (v := 0) dX2_letterBehind_9 ic_0 ?_
      exact hm3
    · rw [if_pos c_2] at hm3
      refine z_iconst (pc := 5) (v := 1) dX2_letterBehind_5 ic_1 ?_
      refine z_goto (pc := 6) (t := 10) dX2_letterBehind_6 (by decide) ?_
      exact hm3
  refine z_name (fun z1 e_z1 => ?_)
  replace h := h z1 e_z1
  refine z_aload_n (pc := 10) dX2_letterBehind_10 rfl ?_
  refine k_geti (pc := 11) (j := 2) zc2 dX2_letterBehind_11 fl_X2_31 (by decide) rfl (pg_lt hk) (pg_sh hk) (v := (f k 2)) rfl ?_
  refine z_iconst (pc := 14) (v := 1) dX2_letterBehind_14 ic_1 ?_
  refine z_isub (pc := 15) dX2_letterBehind_15 ?_
  refine z_iload_n (pc := 16) dX2_letterBehind_16 rfl ?_
  refine z_isub (pc := 17) dX2_letterBehind_17 ?_
  refine k_cVi (pc := 18) (av := [.int z1, .int (((f k 2) - 1) - p2)]) zc2 rfl dX2_letterBehind_18 lk_X2_49 rfl (by decide) (by decide) (pg_lt hk) (pg_sh hk) rfl h (fun r2 f2 h => ?_)
  exact k_iret (pc := 21) hX dX2_letterBehind_21 rfl rfl h
