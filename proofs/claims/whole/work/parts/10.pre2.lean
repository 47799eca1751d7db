/-! ===== preconditions, by program ===== -/
set_option maxRecDepth 20000 in
theorem w_X2_nearest {f : zF} {K : Int32 → zF → Prop} {k : Nat} {p1 : Int32} (hk : isPage k) (h : ∀ X, kR X (zRi K) → Z X mX2_nearest 4 [(0, .ref k), (1, .int p1), (2, .int 0), (3, .int 1)] [] (zC f)) : ci mX2_nearest [.ref k, .int p1] f K := by
  refine ci_of (by decide) (Nat.le_of_ble_eq_true rfl) (fun X hX => ?_)
  replace h := h X hX
  refine z_iconst (pc := 0) (v := 0) dX2_nearest_0 ic_0 ?_
  refine z_istore_n (pc := 1) (lv' := [(2, .int 0), (0, .ref k), (1, .int p1)]) dX2_nearest_1 (Nat.le_of_ble_eq_true rfl) rfl ?_
  refine z_iconst (pc := 2) (v := 1) dX2_nearest_2 ic_1 ?_
  refine z_istore_n (pc := 3) (lv' := [(3, .int 1), (2, .int 0), (0, .ref k), (1, .int p1)]) dX2_nearest_3 (Nat.le_of_ble_eq_true rfl) rfl ?_
  exact z_sub [2, 3, 1, 0] rfl h
set_option maxRecDepth 20000 in
theorem l_X2_nearest_4 {X : zX} {f : zF} {K : Int32 → zF → Prop} {k : Nat} (hk : isPage k) {x1 x2 x3 : Int32}  (hX : kR X (zRi K)) (h : (((f k 1) ≤ x3 → K x2 f) ∧ (¬ (f k 1) ≤ x3 → ci mX2_offOf [.ref k, .int x3, .int x1] f (fun r101 f101 => ci mX2_offOf [.ref k, .int x2, .int x1] f101 (fun r102 f102 => ((r102 ≤ r101 → Z X mX2_nearest 4 [(0, .ref k), (1, .int x1), (2, .int x2), (3, .int (x3 + 1))] [] (zC f102)) ∧ (¬ r102 ≤ r101 → Z X mX2_nearest 4 [(0, .ref k), (1, .int x1), (2, .int x3), (3, .int (x3 + 1))] [] (zC f102)))))))) : Z X mX2_nearest 4 [(0, .ref k), (1, .int x1), (2, .int x2), (3, .int x3)] [] (zC f) := by
  refine z_iload_n (pc := 4) dX2_nearest_4 rfl ?_
  refine z_aload_n (pc := 5) dX2_nearest_5 rfl ?_
  refine k_geti (pc := 6) (j := 1) zc2 dX2_nearest_6 fl_X2_27 (by decide) rfl (pg_lt hk) (pg_sh hk) (v := (f k 1)) rfl ?_
  refine z_icmp_ge (pc := 9) (t := 35) dX2_nearest_9 (by decide) (fun c_9 => ?_) (fun c_9 => ?_)
  · replace h := h.1 c_9
    refine z_iload_n (pc := 35) dX2_nearest_35 rfl ?_
    exact k_iret (pc := 36) hX dX2_nearest_36 rfl rfl h
  · replace h := h.2 c_9
    refine z_aload_n (pc := 12) dX2_nearest_12 rfl ?_
    refine z_iload_n (pc := 13) dX2_nearest_13 rfl ?_
    refine z_iload_n (pc := 14) dX2_nearest_14 rfl ?_
    refine k_cVi (pc := 15) (av := [.int x3, .int x1]) zc2 rfl dX2_nearest_15 lk_X2_73 rfl (by decide) (by decide) (pg_lt hk) (pg_sh hk) rfl h (fun r101 f101 h => ?_)
    refine z_aload_n (pc := 18) dX2_nearest_18 rfl ?_
    refine z_iload_n (pc := 19) dX2_nearest_19 rfl ?_
    refine z_iload_n (pc := 20) dX2_nearest_20 rfl ?_
    refine k_cVi (pc := 21) (av := [.int x2, .int x1]) zc2 rfl dX2_nearest_21 lk_X2_73 rfl (by decide) (by decide) (pg_lt hk) (pg_sh hk) rfl h (fun r102 f102 h => ?_)
    refine z_icmp_ge (pc := 24) (t := 29) dX2_nearest_24 (by decide) (fun c_24 => ?_) (fun c_24 => ?_)
    · replace h := h.1 c_24
      refine z_iinc (pc := 29) (v := (x3 + 1)) (lv' := [(3, .int (x3 + 1)), (0, .ref k), (1, .int x1), (2, .int x2)]) dX2_nearest_29 rfl (congrArg (fun z => x3 + z) ic_1) (Nat.le_of_ble_eq_true rfl) rfl ?_
      refine z_goto (pc := 32) (t := 4) dX2_nearest_32 (by decide) ?_
      exact z_sub [1, 2, 3, 0] rfl h
    · replace h := h.2 c_24
      refine z_iload_n (pc := 27) dX2_nearest_27 rfl ?_
      refine z_istore_n (pc := 28) (lv' := [(2, .int x3), (0, .ref k), (1, .int x1), (3, .int x3)]) dX2_nearest_28 (Nat.le_of_ble_eq_true rfl) rfl ?_
      refine z_iinc (pc := 29) (v := (x3 + 1)) (lv' := [(3, .int (x3 + 1)), (2, .int x3), (0, .ref k), (1, .int x1)]) dX2_nearest_29 rfl (congrArg (fun z => x3 + z) ic_1) (Nat.le_of_ble_eq_true rfl) rfl ?_
      refine z_goto (pc := 32) (t := 4) dX2_nearest_32 (by decide) ?_
      exact z_sub [2, 3, 1, 0] rfl h
set_option maxRecDepth 20000 in
theorem w_X2_takeAll {f : zF} {K : zF → Prop} {k : Nat} {k1 : Nat} (hk : isPage k) (hk1 : isPage k1) (h : (∀ z1 : Int32, z1 = ((zup (zup f k 0 (f k1 0)) k 1 ((zup f k 0 (f k1 0)) k1 1)) k1 2) → cv mX6_copyItems [.ref (k1 + 1), .int 0, .ref (k + 1), .int 0, .int 8] (zup (zup (zup f k 0 (f k1 0)) k 1 ((zup f k 0 (f k1 0)) k1 1)) k 2 z1) (fun f2 => cv mX6_copyItems [.ref (k1 + 2), .int 0, .ref (k + 2), .int 0, .int 8] f2 (fun f3 => cv mX6_copyItems [.ref (k1 + 3), .int 0, .ref (k + 3), .int 0, .int 8] f3 (fun f4 => cv mX6_copyItems [.ref (k1 + 4), .int 0, .ref (k + 4), .int 0, .int 9] f4 (fun f5 => cv mX6_copyItems [.ref (k1 + 5), .int 0, .ref (k + 5), .int 0, .int 9] f5 (fun f6 => K f6))))))) : cv mX2_takeAll [.ref k, .ref k1] f K := by
  refine cv_of (by decide) (Nat.le_of_ble_eq_true rfl) (fun X hX => ?_)
  refine z_aload_n (pc := 0) dX2_takeAll_0 rfl ?_
  refine z_aload_n (pc := 1) dX2_takeAll_1 rfl ?_
  refine k_geti (pc := 2) (j := 0) zc2 dX2_takeAll_2 fl_X2_34 (by decide) rfl (pg_lt hk1) (pg_sh hk1) (v := (f k1 0)) rfl ?_
  refine k_puti (pc := 5) (j := 0) zc2 dX2_takeAll_5 fl_X2_34 (by decide) rfl rfl rfl (pg_lt hk) (pg_sh hk) ?_
  refine z_aload_n (pc := 8) dX2_takeAll_8 rfl ?_
  refine z_aload_n (pc := 9) dX2_takeAll_9 rfl ?_
  refine k_geti (pc := 10) (j := 1) zc2 dX2_takeAll_10 fl_X2_27 (by decide) rfl (pg_lt hk1) (pg_sh hk1) (v := ((zup f k 0 (f k1 0)) k1 1)) rfl ?_
  refine k_puti (pc := 13) (j := 1) zc2 dX2_takeAll_13 fl_X2_27 (by decide) rfl rfl rfl (pg_lt hk) (pg_sh hk) ?_
  refine z_aload_n (pc := 16) dX2_takeAll_16 rfl ?_
  refine z_aload_n (pc := 17) dX2_takeAll_17 rfl ?_
  refine k_geti (pc := 18) (j := 2) zc2 dX2_takeAll_18 fl_X2_31 (by decide) rfl (pg_lt hk1) (pg_sh hk1) (v := ((zup (zup f k 0 (f k1 0)) k 1 ((zup f k 0 (f k1 0)) k1 1)) k1 2)) rfl ?_
  refine z_name (fun z1 e_z1 => ?_)
  replace h := h z1 e_z1
  refine k_puti (pc := 21) (j := 2) zc2 dX2_takeAll_21 fl_X2_31 (by decide) rfl rfl rfl (pg_lt hk) (pg_sh hk) ?_
  refine z_aload_n (pc := 24) dX2_takeAll_24 rfl ?_
  refine k_getr (pc := 25) (j := 3) zc2 dX2_takeAll_25 fl_X2_9 (by decide) rfl (pg_lt hk1) (pg_sh hk1) (pg_rf1 hk1) ?_
  refine z_iconst (pc := 28) (v := 0) dX2_takeAll_28 ic_0 ?_
  refine z_aload_n (pc := 29) dX2_takeAll_29 rfl ?_
  refine k_getr (pc := 30) (j := 3) zc2 dX2_takeAll_30 fl_X2_9 (by decide) rfl (pg_lt hk) (pg_sh hk) (pg_rf1 hk) ?_
  refine z_iconst (pc := 33) (v := 0) dX2_takeAll_33 ic_0 ?_
  refine z_bipush (pc := 34) (v := 8) dX2_takeAll_34 bi_8 ?_
  refine k_cSv (pc := 36) (av := [.ref (k1 + 1), .int 0, .ref (k + 1), .int 0, .int 8]) dX2_takeAll_36 lk_X2_37 rfl (by decide) (by decide) rfl h (fun f2 h => ?_)
  refine z_aload_n (pc := 39) dX2_takeAll_39 rfl ?_
  refine k_getr (pc := 40) (j := 4) zc2 dX2_takeAll_40 fl_X2_15 (by decide) rfl (pg_lt hk1) (pg_sh hk1) (pg_rf2 hk1) ?_
  refine z_iconst (pc := 43) (v := 0) dX2_takeAll_43 ic_0 ?_
  refine z_aload_n (pc := 44) dX2_takeAll_44 rfl ?_
  refine k_getr (pc := 45) (j := 4) zc2 dX2_takeAll_45 fl_X2_15 (by decide) rfl (pg_lt hk) (pg_sh hk) (pg_rf2 hk) ?_
  refine z_iconst (pc := 48) (v := 0) dX2_takeAll_48 ic_0 ?_
  refine z_bipush (pc := 49) (v := 8) dX2_takeAll_49 bi_8 ?_
  refine k_cSv (pc := 51) (av := [.ref (k1 + 2), .int 0, .ref (k + 2), .int 0, .int 8]) dX2_takeAll_51 lk_X2_37 rfl (by decide) (by decide) rfl h (fun f3 h => ?_)
  refine z_aload_n (pc := 54) dX2_takeAll_54 rfl ?_
  refine k_getr (pc := 55) (j := 5) zc2 dX2_takeAll_55 fl_X2_18 (by decide) rfl (pg_lt hk1) (pg_sh hk1) (pg_rf3 hk1) ?_
  refine z_iconst (pc := 58) (v := 0) dX2_takeAll_58 ic_0 ?_
  refine z_aload_n (pc := 59) dX2_takeAll_59 rfl ?_
  refine k_getr (pc := 60) (j := 5) zc2 dX2_takeAll_60 fl_X2_18 (by decide) rfl (pg_lt hk) (pg_sh hk) (pg_rf3 hk) ?_
  refine z_iconst (pc := 63) (v := 0) dX2_takeAll_63 ic_0 ?_
  refine z_bipush (pc := 64) (v := 8) dX2_takeAll_64 bi_8 ?_
  refine k_cSv (pc := 66) (av := [.ref (k1 + 3), .int 0, .ref (k + 3), .int 0, .int 8]) dX2_takeAll_66 lk_X2_37 rfl (by decide) (by decide) rfl h (fun f4 h => ?_)
  refine z_aload_n (pc := 69) dX2_takeAll_69 rfl ?_
  refine k_getr (pc := 70) (j := 6) zc2 dX2_takeAll_70 fl_X2_21 (by decide) rfl (pg_lt hk1) (pg_sh hk1) (pg_rf4 hk1) ?_
  refine z_iconst (pc := 73) (v := 0) dX2_takeAll_73 ic_0 ?_
  refine z_aload_n (pc := 74) dX2_takeAll_74 rfl ?_
  refine k_getr (pc := 75) (j := 6) zc2 dX2_takeAll_75 fl_X2_21 (by decide) rfl (pg_lt hk) (pg_sh hk) (pg_rf4 hk) ?_
  refine z_iconst (pc := 78) (v := 0) dX2_takeAll_78 ic_0 ?_
  refine z_bipush (pc := 79) (v := 9) dX2_takeAll_79 bi_9 ?_
  refine k_cSv (pc := 81) (av := [.ref (k1 + 4), .int 0, .ref (k + 4), .int 0, .int 9]) dX2_takeAll_81 lk_X2_37 rfl (by decide) (by decide) rfl h (fun f5 h => ?_)
  refine z_aload_n (pc := 84) dX2_takeAll_84 rfl ?_
  refine k_getr (pc := 85) (j := 7) zc2 dX2_takeAll_85 fl_X2_24 (by decide) rfl (pg_lt hk1) (pg_sh hk1) (pg_rf5 hk1) ?_
  refine z_iconst (pc := 88) (v := 0) dX2_takeAll_88 ic_0 ?_
  refine z_aload_n (pc := 89) dX2_takeAll_89 rfl ?_
  refine k_getr (pc := 90) (j := 7) zc2 dX2_takeAll_90 fl_X2_24 (by decide) rfl (pg_lt hk) (pg_sh hk) (pg_rf5 hk) ?_
  refine z_iconst (pc := 93) (v := 0) dX2_takeAll_93 ic_0 ?_
  refine z_bipush (pc := 94) (v := 9) dX2_takeAll_94 bi_9 ?_
  refine k_cSv (pc := 96) (av := [.ref (k1 + 5), .int 0, .ref (k + 5), .int 0, .int 9]) dX2_takeAll_96 lk_X2_37 rfl (by decide) (by decide) rfl h (fun f6 h => ?_)
  exact k_vret (pc := 99) hX dX2_takeAll_99 rfl h
set_option maxRecDepth 20000 in
theorem w_X2_turnOver {f : zF} {K : zF → Prop} {k : Nat} (hk : isPage k) (h : ∀ X, kR X (zRv K) → Z X mX2_turnOver 2 [(0, .ref k), (1, .int 0)] [] (zC f)) : cv mX2_turnOver [.ref k] f K := by
  refine cv_of (by decide) (Nat.le_of_ble_eq_true rfl) (fun X hX => ?_)
  replace h := h X hX
  refine z_iconst (pc := 0) (v := 0) dX2_turnOver_0 ic_0 ?_
  refine z_istore_n (pc := 1) (lv' := [(1, .int 0), (0, .ref k)]) dX2_turnOver_1 (Nat.le_of_ble_eq_true rfl) rfl ?_
  exact z_sub [1, 0] rfl h
set_option maxRecDepth 20000 in
theorem l_X2_turnOver_2 {X : zX} {f : zF} {K : zF → Prop} {k : Nat} (hk : isPage k) {x1 : Int32}  (hX : kR X (zRv K)) (h : (((f k 2) ≤ x1 → K f) ∧ (¬ (f k 2) ≤ x1 → ci mX2_letterAt [.ref k, .int 0, .int x1] f (fun r101 f101 => ci mX2_letterAt [.ref k, .int 1, .int x1] f101 (fun r102 f102 => cv mX2_putLetter [.ref k, .int 0, .int x1, .int r102] f102 (fun f103 => cv mX2_putLetter [.ref k, .int 1, .int x1, .int r101] f103 (fun f104 => Z X mX2_turnOver 2 [(0, .ref k), (1, .int (x1 + 1))] [] (zC f104)))))))) : Z X mX2_turnOver 2 [(0, .ref k), (1, .int x1)] [] (zC f) := by
  refine z_iload_n (pc := 2) dX2_turnOver_2 rfl ?_
  refine z_aload_n (pc := 3) dX2_turnOver_3 rfl ?_
  refine k_geti (pc := 4) (j := 2) zc2 dX2_turnOver_4 fl_X2_31 (by decide) rfl (pg_lt hk) (pg_sh hk) (v := (f k 2)) rfl ?_
  refine z_icmp_ge (pc := 7) (t := 42) dX2_turnOver_7 (by decide) (fun c_7 => ?_) (fun c_7 => ?_)
  · replace h := h.1 c_7
    exact k_vret (pc := 42) hX dX2_turnOver_42 rfl h
  · replace h := h.2 c_7
    refine z_aload_n (pc := 10) dX2_turnOver_10 rfl ?_
    refine z_iconst (pc := 11) (v := 0) dX2_turnOver_11 ic_0 ?_
    refine z_iload_n (pc := 12) dX2_turnOver_12 rfl ?_
    refine k_cVi (pc := 13) (av := [.int 0, .int x1]) zc2 rfl dX2_turnOver_13 lk_X2_49 rfl (by decide) (by decide) (pg_lt hk) (pg_sh hk) rfl h (fun r101 f101 h => ?_)
    refine z_istore_n (pc := 16) (lv' := [(2, .int r101), (0, .ref k), (1, .int x1)]) dX2_turnOver_16 (Nat.le_of_ble_eq_true rfl) rfl ?_
    refine z_aload_n (pc := 17) dX2_turnOver_17 rfl ?_
    refine z_iconst (pc := 18) (v := 0) dX2_turnOver_18 ic_0 ?_
    refine z_iload_n (pc := 19) dX2_turnOver_19 rfl ?_
    refine z_aload_n (pc := 20) dX2_turnOver_20 rfl ?_
    refine z_iconst (pc := 21) (v := 1) dX2_turnOver_21 ic_1 ?_
    refine z_iload_n (pc := 22) dX2_turnOver_22 rfl ?_
    refine k_cVi (pc := 23) (av := [.int 1, .int x1]) zc2 rfl dX2_turnOver_23 lk_X2_49 rfl (by decide) (by decide) (pg_lt hk) (pg_sh hk) rfl h (fun r102 f102 h => ?_)
    refine k_cVv (pc := 26) (av := [.int 0, .int x1, .int r102]) zc2 rfl dX2_turnOver_26 lk_X2_52 rfl (by decide) (by decide) (pg_lt hk) (pg_sh hk) rfl h (fun f103 h => ?_)
    refine z_aload_n (pc := 29) dX2_turnOver_29 rfl ?_
    refine z_iconst (pc := 30) (v := 1) dX2_turnOver_30 ic_1 ?_
    refine z_iload_n (pc := 31) dX2_turnOver_31 rfl ?_
    refine z_iload_n (pc := 32) dX2_turnOver_32 rfl ?_
    refine k_cVv (pc := 33) (av := [.int 1, .int x1, .int r101]) zc2 rfl dX2_turnOver_33 lk_X2_52 rfl (by decide) (by decide) (pg_lt hk) (pg_sh hk) rfl h (fun f104 h => ?_)
    refine z_iinc (pc := 36) (v := (x1 + 1)) (lv' := [(1, .int (x1 + 1)), (2, .int r101), (0, .ref k)]) dX2_turnOver_36 rfl (congrArg (fun z => x1 + z) ic_1) (Nat.le_of_ble_eq_true rfl) rfl ?_
    refine z_goto (pc := 39) (t := 2) dX2_turnOver_39 (by decide) ?_
    exact z_sub [2, 0] rfl h
set_option maxRecDepth 20000 in
theorem w_X3_takesNumber {f : zF} {K : Int32 → zF → Prop} {p1 : Int32} (h : (((f 4 2) = 2 → ci mX5_numberTold [.ref 4] f (fun r1 f1 => ((r1 ≤ p1 → cv mX5_advance [.ref 4] (zup f1 3 4 r1) (fun f2 => K 1 f2)) ∧ (¬ r1 ≤ p1 → ci mX3_fails [.ref 3, .int 2] (zup f1 3 4 r1) (fun r3 f3 => (narrow .boolean (.int r3) = .int r3 ∧ K r3 f3)))))) ∧ (¬ (f 4 2) = 2 → ci mX3_fails [.ref 3, .int 1] f (fun r4 f4 => (narrow .boolean (.int r4) = .int r4 ∧ K r4 f4))))) : ci mX3_takesNumber [.ref 3, .int p1] f K := by
  refine ci_of (by decide) (Nat.le_of_ble_eq_true rfl) (fun X hX => ?_)
  refine z_aload_n (pc := 0) dX3_takesNumber_0 rfl ?_
  refine k_getr (pc := 1) (j := 0) zc3 dX3_takesNumber_1 fl_X3_12 (by decide) rfl (by decide) rfl (k2 := 4) rfl ?_
  refine k_geti (pc := 4) (j := 2) zc5 dX3_takesNumber_4 fl_X3_105 (by decide) rfl (by decide) rfl (v := (f 4 2)) rfl ?_
  refine z_iconst (pc := 7) (v := 2) dX3_takesNumber_7 ic_2 ?_
  refine z_icmp_eq (pc := 8) (t := 17) dX3_takesNumber_8 (by decide) (fun c_8 => ?_) (fun c_8 => ?_)
  · replace h := h.1 c_8
    refine z_aload_n (pc := 17) dX3_takesNumber_17 rfl ?_
    refine z_aload_n (pc := 18) dX3_takesNumber_18 rfl ?_
    refine k_getr (pc := 19) (j := 0) zc3 dX3_takesNumber_19 fl_X3_12 (by decide) rfl (by decide) rfl (k2 := 4) rfl ?_
    refine k_cVi (pc := 22) (av := []) zc5 rfl dX3_takesNumber_22 lk_X3_115 rfl (by decide) (by decide) (by decide) rfl rfl h (fun r1 f1 h => ?_)
    refine k_puti (pc := 25) (j := 4) zc3 dX3_takesNumber_25 fl_X3_55 (by decide) rfl rfl rfl (by decide) rfl ?_
    refine z_aload_n (pc := 28) dX3_takesNumber_28 rfl ?_
    refine k_geti (pc := 29) (j := 4) zc3 dX3_takesNumber_29 fl_X3_55 (by decide) rfl (by decide) rfl (v := r1) rfl ?_
    refine z_iload_n (pc := 32) dX3_takesNumber_32 rfl ?_
    refine z_icmp_le (pc := 33) (t := 42) dX3_takesNumber_33 (by decide) (fun c_33 => ?_) (fun c_33 => ?_)
    · replace h := h.1 c_33
      refine z_aload_n (pc := 42) dX3_takesNumber_42 rfl ?_
      refine k_getr (pc := 43) (j := 0) zc3 dX3_takesNumber_43 fl_X3_12 (by decide) rfl (by decide) rfl (k2 := 4) rfl ?_
      refine k_cVv (pc := 46) (av := []) zc5 rfl dX3_takesNumber_46 lk_X3_80 rfl (by decide) (by decide) (by decide) rfl rfl h (fun f2 h => ?_)
      refine z_iconst (pc := 49) (v := 1) dX3_takesNumber_49 ic_1 ?_
      exact k_iret (pc := 50) hX dX3_takesNumber_50 rfl rfl h
    · replace h := h.2 c_33
      refine z_aload_n (pc := 36) dX3_takesNumber_36 rfl ?_
      refine z_iconst (pc := 37) (v := 2) dX3_takesNumber_37 ic_2 ?_
      refine k_cVi (pc := 38) (av := [.int 2]) zc3 rfl dX3_takesNumber_38 lk_X3_73 rfl (by decide) (by decide) (by decide) rfl rfl h (fun r3 f3 h => ?_)
      exact k_iret (pc := 41) hX dX3_takesNumber_41 rfl h.1 h.2
  · replace h := h.2 c_8
    refine z_aload_n (pc := 11) dX3_takesNumber_11 rfl ?_
    refine z_iconst (pc := 12) (v := 1) dX3_takesNumber_12 ic_1 ?_
    refine k_cVi (pc := 13) (av := [.int 1]) zc3 rfl dX3_takesNumber_13 lk_X3_73 rfl (by decide) (by decide) (by decide) rfl rfl h (fun r4 f4 h => ?_)
    exact k_iret (pc := 16) hX dX3_takesNumber_16 rfl h.1 h.2
set_option maxRecDepth 20000 in
theorem w_X3_takesSign {f : zF} {K : Int32 → zF → Prop} {p1 : Int32} (h : (((f 4 2) = p1 → cv mX5_advance [.ref 4] f (fun f1 => K 1 f1)) ∧ (¬ (f 4 2) = p1 → ci mX3_fails [.ref 3, .int 1] f (fun r2 f2 => (narrow .boolean (.int r2) = .int r2 ∧ K r2 f2))))) : ci mX3_takesSign [.ref 3, .int p1] f K := by
  refine ci_of (by decide) (Nat.le_of_ble_eq_true rfl) (fun X hX => ?_)
  refine z_aload_n (pc := 0) dX3_takesSign_0 rfl ?_
  refine k_getr (pc := 1) (j := 0) zc3 dX3_takesSign_1 fl_X3_12 (by decide) rfl (by decide) rfl (k2 := 4) rfl ?_
  refine k_geti (pc := 4) (j := 2) zc5 dX3_takesSign_4 fl_X3_105 (by decide) rfl (by decide) rfl (v := (f 4 2)) rfl ?_
  refine z_iload_n (pc := 7) dX3_takesSign_7 rfl ?_
  refine z_icmp_eq (pc := 8) (t := 17) dX3_takesSign_8 (by decide) (fun c_8 => ?_) (fun c_8 => ?_)
  · replace h := h.1 c_8
    refine z_aload_n (pc := 17) dX3_takesSign_17 rfl ?_
    refine k_getr (pc := 18) (j := 0) zc3 dX3_takesSign_18 fl_X3_12 (by decide) rfl (by decide) rfl (k2 := 4) rfl ?_
    refine k_cVv (pc := 21) (av := []) zc5 rfl dX3_takesSign_21 lk_X3_80 rfl (by decide) (by decide) (by decide) rfl rfl h (fun f1 h => ?_)
    refine z_iconst (pc := 24) (v := 1) dX3_takesSign_24 ic_1 ?_
    exact k_iret (pc := 25) hX dX3_takesSign_25 rfl rfl h
  · replace h := h.2 c_8
    refine z_aload_n (pc := 11) dX3_takesSign_11 rfl ?_
    refine z_iconst (pc := 12) (v := 1) dX3_takesSign_12 ic_1 ?_
    refine k_cVi (pc := 13) (av := [.int 1]) zc3 rfl dX3_takesSign_13 lk_X3_73 rfl (by decide) (by decide) (by decide) rfl rfl h (fun r2 f2 h => ?_)
    exact k_iret (pc := 16) hX dX3_takesSign_16 rfl h.1 h.2
set_option maxRecDepth 20000 in
theorem w_X4_takeItems {f : zF} {K : zF → Prop} {k : Nat} {k1 : Nat} {p2 : Int32} {p3 : Int32} {p4 : Int32} (hk : isRow k) (hk1 : isRow k1) (h : cv mX6_copyItems [.ref (k1 + 1), .int p2, .ref (k + 1), .int p3, .int p4] f (fun f1 => K f1)) : cv mX4_takeItems [.ref k, .ref k1, .int p2, .int p3, .int p4] f K := by
  refine cv_of (by decide) (Nat.le_of_ble_eq_true rfl) (fun X hX => ?_)
  refine z_aload_n (pc := 0) dX4_takeItems_0 rfl ?_
  refine k_getr (pc := 1) (j := 0) zc4 dX4_takeItems_1 fl_X4_9 (by decide) rfl (rw_lt hk1) (rw_sh hk1) (rw_rf1 hk1) ?_
  refine z_iload_n (pc := 4) dX4_takeItems_4 rfl ?_
  refine z_aload_n (pc := 5) dX4_takeItems_5 rfl ?_
  refine k_getr (pc := 6) (j := 0) zc4 dX4_takeItems_6 fl_X4_9 (by decide) rfl (rw_lt hk) (rw_sh hk) (rw_rf1 hk) ?_
  refine z_iload_n (pc := 9) dX4_takeItems_9 rfl ?_
  refine z_iload (pc := 10) dX4_takeItems_10 rfl ?_
  refine k_cSv (pc := 12) (av := [.ref (k1 + 1), .int p2, .ref (k + 1), .int p3, .int p4]) dX4_takeItems_12 lk_X4_30 rfl (by decide) (by decide) rfl h (fun f1 h => ?_)
  exact k_vret (pc := 15) hX dX4_takeItems_15 rfl h
set_option maxRecDepth 20000 in
theorem w_X5_rewind {f : zF} {K : zF → Prop}  (h : cv mX5_advance [.ref 4] (zup f 4 4 0) (fun f1 => K f1)) : cv mX5_rewind [.ref 4] f K := by
  refine cv_of (by decide) (Nat.le_of_ble_eq_true rfl) (fun X hX => ?_)
  refine z_aload_n (pc := 0) dX5_rewind_0 rfl ?_
  refine z_iconst (pc := 1) (v := 0) dX5_rewind_1 ic_0 ?_
  refine k_puti (pc := 2) (j := 4) zc5 dX5_rewind_2 fl_X5_25 (by decide) rfl rfl rfl (by decide) rfl ?_
  refine z_aload_n (pc := 5) dX5_rewind_5 rfl ?_
  refine k_cVv (pc := 6) (av := []) zc5 rfl dX5_rewind_6 lk_X5_28 rfl (by decide) (by decide) (by decide) rfl rfl h (fun f1 h => ?_)
  exact k_vret (pc := 9) hX dX5_rewind_9 rfl h
set_option maxRecDepth 20000 in
theorem w_X6_as {f : zF} {K : Int32 → zF → Prop} {p1 : Int32} {p2 : Int32} (h : ci mX2_hasLetter [.ref 12, .int p1] f (fun r1 f1 => ((r1 = 0 → K (-1000001) f1) ∧ (¬ r1 = 0 → ((p2 < 0 → K (-1000001) f1) ∧ (¬ p2 < 0 → ((p2 ≤ 5 → ci mX2_kindOf [.ref 12, .int p1] f1 (fun r2 f2 => ci mX6_isOfKind [.int r2, .int p2] f2 (fun r3 f3 => ((r3 = 0 → ci mX6_found [.ref 0, .int 3] f3 (fun r4 f4 => K r4 f4)) ∧ (¬ r3 = 0 → ci mX6_unfound [.ref 0, .int p1] f3 (fun r5 f5 => K r5 f5)))))) ∧ (¬ p2 ≤ 5 → K (-1000001) f1)))))))) : ci mX6_as [.ref 0, .int p1, .int p2] f K := by
  refine ci_of (by decide) (Nat.le_of_ble_eq_true rfl) (fun X hX => ?_)
  refine z_aload_n (pc := 0) dX6_as_0 rfl ?_
  refine k_getr (pc := 1) (j := 3) zc6 dX6_as_1 fl_X6_29 (by decide) rfl (by decide) rfl (k2 := 12) rfl ?_
  refine z_iload_n (pc := 4) dX6_as_4 rfl ?_
  refine k_cVi (pc := 5) (av := [.int p1]) zc2 rfl dX6_as_5 lk_X6_130 rfl (by decide) (by decide) (by decide) rfl rfl h (fun r1 f1 h => ?_)
  refine z_if_eq (pc := 8) (t := 20) dX6_as_8 (by decide) (fun c_8 => ?_) (fun c_8 => ?_)
  · replace h := h.1 c_8
    refine z_ldc (pc := 20) (v := -1000001) dX6_as_20 co_X6_52 ?_
    exact k_iret (pc := 22) hX dX6_as_22 rfl rfl h
  · replace h := h.2 c_8
    refine z_iload_n (pc := 11) dX6_as_11 rfl ?_
    refine z_if_lt (pc := 12) (t := 20) dX6_as_12 (by decide) (fun c_12 => ?_) (fun c_12 => ?_)
    · replace h := h.1 c_12
      refine z_ldc (pc := 20) (v := -1000001) dX6_as_20 co_X6_52 ?_
      exact k_iret (pc := 22) hX dX6_as_22 rfl rfl h
    · replace h := h.2 c_12
      refine z_iload_n (pc := 15) dX6_as_15 rfl ?_
      refine z_iconst (pc := 16) (v := 5) dX6_as_16 ic_5 ?_
      refine z_icmp_le (pc := 17) (t := 23) dX6_as_17 (by decide) (fun c_17 => ?_) (fun c_17 => ?_)
      · replace h := h.1 c_17
        refine z_aload_n (pc := 23) dX6_as_23 rfl ?_
        refine k_getr (pc := 24) (j := 3) zc6 dX6_as_24 fl_X6_29 (by decide) rfl (by decide) rfl (k2 := 12) rfl ?_
        refine z_iload_n (pc := 27) dX6_as_27 rfl ?_
        refine k_cVi (pc := 28) (av := [.int p1]) zc2 rfl dX6_as_28 lk_X6_229 rfl (by decide) (by decide) (by decide) rfl rfl h (fun r2 f2 h => ?_)
        refine z_iload_n (pc := 31) dX6_as_31 rfl ?_
        refine k_cSi (pc := 32) (av := [.int r2, .int p2]) dX6_as_32 lk_X6_232 rfl (by decide) (by decide) rfl h (fun r3 f3 h => ?_)
        refine z_if_eq (pc := 35) (t := 46) dX6_as_35 (by decide) (fun c_35 => ?_) (fun c_35 => ?_)
        · replace h := h.1 c_35
          refine z_aload_n (pc := 46) dX6_as_46 rfl ?_
          refine z_iconst (pc := 47) (v := 3) dX6_as_47 ic_3 ?_
          refine k_cVi (pc := 48) (av := [.int 3]) zc6 rfl dX6_as_48 lk_X6_53 rfl (by decide) (by decide) (by decide) rfl rfl h (fun r4 f4 h => ?_)
          exact k_iret (pc := 51) hX dX6_as_51 rfl rfl h
        · replace h := h.2 c_35
          refine z_aload_n (pc := 38) dX6_as_38 rfl ?_
          refine z_iload_n (pc := 39) dX6_as_39 rfl ?_
          refine k_cVi (pc := 40) (av := [.int p1]) zc6 rfl dX6_as_40 lk_X6_61 rfl (by decide) (by decide) (by decide) rfl rfl h (fun r5 f5 h => ?_)
          refine z_goto (pc := 43) (t := 51) dX6_as_43 (by decide) ?_
          exact k_iret (pc := 51) hX dX6_as_51 rfl rfl h
      · replace h := h.2 c_17
        refine z_ldc (pc := 20) (v := -1000001) dX6_as_20 co_X6_52 ?_
        exact k_iret (pc := 22) hX dX6_as_22 rfl rfl h
set_option maxRecDepth 20000 in
theorem w_X6_at {f : zF} {K : Int32 → zF → Prop} {p1 : Int32} {p2 : Int32} (h : ci mX2_hasPlace [.ref 12, .int p1, .int p2] f (fun r1 f1 => ((r1 = 0 → K (-1000001) f1) ∧ (¬ r1 = 0 → ci mX2_letterAt [.ref 12, .int p1, .int p2] f1 (fun r2 f2 => K r2 f2))))) : ci mX6_at [.ref 0, .int p1, .int p2] f K := by
  refine ci_of (by decide) (Nat.le_of_ble_eq_true rfl) (fun X hX => ?_)
  refine z_aload_n (pc := 0) dX6_at_0 rfl ?_
  refine k_getr (pc := 1) (j := 3) zc6 dX6_at_1 fl_X6_29 (by decide) rfl (by decide) rfl (k2 := 12) rfl ?_
  refine z_iload_n (pc := 4) dX6_at_4 rfl ?_
  refine z_iload_n (pc := 5) dX6_at_5 rfl ?_
  refine k_cVi (pc := 6) (av := [.int p1, .int p2]) zc2 rfl dX6_at_6 lk_X6_127 rfl (by decide) (by decide) (by decide) rfl rfl h (fun r1 f1 h => ?_)
  refine z_if_eq (pc := 9) (t := 24) dX6_at_9 (by decide) (fun c_9 => ?_) (fun c_9 => ?_)
  · replace h := h.1 c_9
    refine z_ldc (pc := 24) (v := -1000001) dX6_at_24 co_X6_52 ?_
    exact k_iret (pc := 26) hX dX6_at_26 rfl rfl h
  · replace h := h.2 c_9
    refine z_aload_n (pc := 12) dX6_at_12 rfl ?_
    refine k_getr (pc := 13) (j := 3) zc6 dX6_at_13 fl_X6_29 (by decide) rfl (by decide) rfl (k2 := 12) rfl ?_
    refine z_iload_n (pc := 16) dX6_at_16 rfl ?_
    refine z_iload_n (pc := 17) dX6_at_17 rfl ?_
    refine k_cVi (pc := 18) (av := [.int p1, .int p2]) zc2 rfl dX6_at_18 lk_X6_134 rfl (by decide) (by decide) (by decide) rfl rfl h (fun r2 f2 h => ?_)
    refine z_goto (pc := 21) (t := 26) dX6_at_21 (by decide) ?_
    exact k_iret (pc := 26) hX dX6_at_26 rfl rfl h
set_option maxRecDepth 20000 in
theorem w_X6_feed {f : zF} {K : Int32 → zF → Prop} {p1 : Int64} {p2 : Int32} (h : ((p2 < 1 → K (-1000001) f) ∧ (¬ p2 < 1 → ((p2 ≤ 8 → ci mX5_append [.ref 4, .long p1, .int p2] f (fun r1 f1 => ((r1 = 0 → K (-1000003) f1) ∧ (¬ r1 = 0 → K (f1 4 1) f1)))) ∧ (¬ p2 ≤ 8 → K (-1000001) f))))) : ci mX6_feed [.ref 0, .long p1, .int p2] f K := by
  refine ci_of (by decide) (Nat.le_of_ble_eq_true rfl) (fun X hX => ?_)
  refine z_iload_n (pc := 0) dX6_feed_0 rfl ?_
  refine z_iconst (pc := 1) (v := 1) dX6_feed_1 ic_1 ?_
  refine z_icmp_lt (pc := 2) (t := 11) dX6_feed_2 (by decide) (fun c_2 => ?_) (fun c_2 => ?_)
  · replace h := h.1 c_2
    refine z_ldc (pc := 11) (v := -1000001) dX6_feed_11 co_X6_52 ?_
    exact k_iret (pc := 13) hX dX6_feed_13 rfl rfl h
  · replace h := h.2 c_2
    refine z_iload_n (pc := 5) dX6_feed_5 rfl ?_
    refine z_bipush (pc := 6) (v := 8) dX6_feed_6 bi_8 ?_
    refine z_icmp_le (pc := 8) (t := 14) dX6_feed_8 (by decide) (fun c_8 => ?_) (fun c_8 => ?_)
    · replace h := h.1 c_8
      refine z_aload_n (pc := 14) dX6_feed_14 rfl ?_
      refine k_getr (pc := 15) (j := 2) zc6 dX6_feed_15 fl_X6_24 (by decide) rfl (by decide) rfl (k2 := 3) rfl ?_
      refine k_getr (pc := 18) (j := 0) zc3 dX6_feed_18 fl_X6_92 (by decide) rfl (by decide) rfl (k2 := 4) rfl ?_
      refine z_lload_n (pc := 21) dX6_feed_21 rfl ?_
      refine z_iload_n (pc := 22) dX6_feed_22 rfl ?_
      refine k_cVi (pc := 23) (av := [.long p1, .int p2]) zc5 rfl dX6_feed_23 lk_X6_96 rfl (by decide) (by decide) (by decide) rfl rfl h (fun r1 f1 h => ?_)
      refine z_if_eq (pc := 26) (t := 42) dX6_feed_26 (by decide) (fun c_26 => ?_) (fun c_26 => ?_)
      · replace h := h.1 c_26
        refine z_ldc (pc := 42) (v := -1000003) dX6_feed_42 co_X6_103 ?_
        exact k_iret (pc := 44) hX dX6_feed_44 rfl rfl h
      · replace h := h.2 c_26
        refine z_aload_n (pc := 29) dX6_feed_29 rfl ?_
        refine k_getr (pc := 30) (j := 2) zc6 dX6_feed_30 fl_X6_24 (by decide) rfl (by decide) rfl (k2 := 3) rfl ?_
        refine k_getr (pc := 33) (j := 0) zc3 dX6_feed_33 fl_X6_92 (by decide) rfl (by decide) rfl (k2 := 4) rfl ?_
        refine k_geti (pc := 36) (j := 1) zc5 dX6_feed_36 fl_X6_102 (by decide) rfl (by decide) rfl (v := (f1 4 1)) rfl ?_
        refine z_goto (pc := 39) (t := 44) dX6_feed_39 (by decide) ?_
        exact k_iret (pc := 44) hX dX6_feed_44 rfl rfl h
    · replace h := h.2 c_8
      refine z_ldc (pc := 11) (v := -1000001) dX6_feed_11 co_X6_52 ?_
      exact k_iret (pc := 13) hX dX6_feed_13 rfl rfl h
set_option maxRecDepth 20000 in
theorem w_X6_kind {f : zF} {K : Int32 → zF → Prop} {p1 : Int32} (h : ci mX2_hasLetter [.ref 12, .int p1] f (fun r1 f1 => ((r1 = 0 → K (-1000001) f1) ∧ (¬ r1 = 0 → ci mX2_kindOf [.ref 12, .int p1] f1 (fun r2 f2 => K r2 f2))))) : ci mX6_kind [.ref 0, .int p1] f K := by
  refine ci_of (by decide) (Nat.le_of_ble_eq_true rfl) (fun X hX => ?_)
  refine z_aload_n (pc := 0) dX6_kind_0 rfl ?_
  refine k_getr (pc := 1) (j := 3) zc6 dX6_kind_1 fl_X6_29 (by decide) rfl (by decide) rfl (k2 := 12) rfl ?_
  refine z_iload_n (pc := 4) dX6_kind_4 rfl ?_
  refine k_cVi (pc := 5) (av := [.int p1]) zc2 rfl dX6_kind_5 lk_X6_130 rfl (by decide) (by decide) (by decide) rfl rfl h (fun r1 f1 h => ?_)
  refine z_if_eq (pc := 8) (t := 22) dX6_kind_8 (by decide) (fun c_8 => ?_) (fun c_8 => ?_)
  · replace h := h.1 c_8
    refine z_ldc (pc := 22) (v := -1000001) dX6_kind_22 co_X6_52 ?_
    exact k_iret (pc := 24) hX dX6_kind_24 rfl rfl h
  · replace h := h.2 c_8
    refine z_aload_n (pc := 11) dX6_kind_11 rfl ?_
    refine k_getr (pc := 12) (j := 3) zc6 dX6_kind_12 fl_X6_29 (by decide) rfl (by decide) rfl (k2 := 12) rfl ?_
    refine z_iload_n (pc := 15) dX6_kind_15 rfl ?_
    refine k_cVi (pc := 16) (av := [.int p1]) zc2 rfl dX6_kind_16 lk_X6_229 rfl (by decide) (by decide) (by decide) rfl rfl h (fun r2 f2 h => ?_)
    refine z_goto (pc := 19) (t := 24) dX6_kind_19 (by decide) ?_
    exact k_iret (pc := 24) hX dX6_kind_24 rfl rfl h
set_option maxRecDepth 20000 in
theorem w_X6_letter {f : zF} {K : Int32 → zF → Prop} {p1 : Int32} {p2 : Int32} (h : ci mX2_hasLetter [.ref 12, .int p1] f (fun r1 f1 => ((¬ r1 = 0 → ((p2 = 0 → ci mX2_cellsOf [.ref 12, .int p1] f1 (fun r2 f2 => K r2 f2)) ∧ (p2 = 1 → ci mX2_cellsOf [.ref 12, .int p1] f1 (fun r3 f3 => ci mX6_turned [.int r3] f3 (fun r4 f4 => K r4 f4))) ∧ (p2 = 2 → ci mX2_throughOf [.ref 12, .int p1] f1 (fun r5 f5 => K r5 f5)) ∧ (¬ p2 = 0 → ¬ p2 = 1 → ¬ p2 = 2 → K (-1000001) f1))) ∧ (r1 = 0 → K (-1000001) f1)))) : ci mX6_letter [.ref 0, .int p1, .int p2] f K := by
  refine ci_of (by decide) (Nat.le_of_ble_eq_true rfl) (fun X hX => ?_)
  refine z_aload_n (pc := 0) dX6_letter_0 rfl ?_
  refine k_getr (pc := 1) (j := 3) zc6 dX6_letter_1 fl_X6_29 (by decide) rfl (by decide) rfl (k2 := 12) rfl ?_
  refine z_iload_n (pc := 4) dX6_letter_4 rfl ?_
  refine k_cVi (pc := 5) (av := [.int p1]) zc2 rfl dX6_letter_5 lk_X6_130 rfl (by decide) (by decide) (by decide) rfl rfl h (fun r1 f1 h => ?_)
  refine z_if_ne (pc := 8) (t := 14) dX6_letter_8 (by decide) (fun c_8 => ?_) (fun c_8 => ?_)
  · replace h := h.1 c_8
    refine z_iload_n (pc := 14) dX6_letter_14 rfl ?_
    refine z_tsw3_0 (pc := 15) 40 49 61 70 dX6_letter_15 rfl (by decide) (by decide) (fun c_15_0 => ?_) (fun c_15_1 => ?_) (fun c_15_2 => ?_) (fun c_15_0 c_15_1 c_15_2 => ?_)
    · replace h := h.1 c_15_0
      refine z_aload_n (pc := 40) dX6_letter_40 rfl ?_
      refine k_getr (pc := 41) (j := 3) zc6 dX6_letter_41 fl_X6_29 (by decide) rfl (by decide) rfl (k2 := 12) rfl ?_
      refine z_iload_n (pc := 44) dX6_letter_44 rfl ?_
      refine k_cVi (pc := 45) (av := [.int p1]) zc2 rfl dX6_letter_45 lk_X6_168 rfl (by decide) (by decide) (by decide) rfl rfl h (fun r2 f2 h => ?_)
      exact k_iret (pc := 48) hX dX6_letter_48 rfl rfl h
    · replace h := h.2.1 c_15_1
      refine z_aload_n (pc := 49) dX6_letter_49 rfl ?_
      refine k_getr (pc := 50) (j := 3) zc6 dX6_letter_50 fl_X6_29 (by decide) rfl (by decide) rfl (k2 := 12) rfl ?_
      refine z_iload_n (pc := 53) dX6_letter_53 rfl ?_
      refine k_cVi (pc := 54) (av := [.int p1]) zc2 rfl dX6_letter_54 lk_X6_168 rfl (by decide) (by decide) (by decide) rfl rfl h (fun r3 f3 h => ?_)
      refine k_cSi (pc := 57) (av := [.int r3]) dX6_letter_57 lk_X6_171 rfl (by decide) (by decide) rfl h (fun r4 f4 h => ?_)
      exact k_iret (pc := 60) hX dX6_letter_60 rfl rfl h
    · replace h := h.2.2.1 c_15_2
      refine z_aload_n (pc := 61) dX6_letter_61 rfl ?_
      refine k_getr (pc := 62) (j := 3) zc6 dX6_letter_62 fl_X6_29 (by decide) rfl (by decide) rfl (k2 := 12) rfl ?_
      refine z_iload_n (pc := 65) dX6_letter_65 rfl ?_
      refine k_cVi (pc := 66) (av := [.int p1]) zc2 rfl dX6_letter_66 lk_X6_174 rfl (by decide) (by decide) (by decide) rfl rfl h (fun r5 f5 h => ?_)
      exact k_iret (pc := 69) hX dX6_letter_69 rfl rfl h
    · replace h := h.2.2.2 c_15_0 c_15_1 c_15_2
      refine z_ldc (pc := 70) (v := -1000001) dX6_letter_70 co_X6_52 ?_
      exact k_iret (pc := 72) hX dX6_letter_72 rfl rfl h
  · replace h := h.2 c_8
    refine z_ldc (pc := 11) (v := -1000001) dX6_letter_11 co_X6_52 ?_
    exact k_iret (pc := 13) hX dX6_letter_13 rfl rfl h
set_option maxRecDepth 20000 in
theorem w_X6_set {f : zF} {K : Int32 → zF → Prop} {p1 : Int32} {p2 : Int32} {p3 : Int32} (h : cq mX6_rowOf [.ref 0, .int p1] f (fun r1 f1 => (r1 = none → K (-1000001) f1) ∧ (∀ k1, r1 = some k1 → (isRow k1 ∧ ci mX4_isMissing [.ref k1] f1 (fun r2 f2 => ((r2 = 0 → ci mX4_holds [.ref k1, .int p2, .int 1] f2 (fun r3 f3 => ((¬ r3 = 0 → cv mX4_store [.ref k1, .int p2, .int p3] f3 (fun f4 => ci mX4_itemAt [.ref k1, .int p2] f4 (fun r5 f5 => ci mX6_unfound [.ref 0, .int r5] f5 (fun r6 f6 => K r6 f6)))) ∧ (r3 = 0 → ci mX6_found [.ref 0, .int 2] f3 (fun r7 f7 => K r7 f7))))) ∧ (¬ r2 = 0 → ci mX6_found [.ref 0, .int 1] f2 (fun r8 f8 => K r8 f8)))))))) : ci mX6_set [.ref 0, .int p1, .int p2, .int p3] f K := by
  refine ci_of (by decide) (Nat.le_of_ble_eq_true rfl) (fun X hX => ?_)
  refine z_aload_n (pc := 0) dX6_set_0 rfl ?_
  refine z_iload_n (pc := 1) dX6_set_1 rfl ?_
  refine k_cVq (pc := 2) (av := [.int p1]) zc6 rfl dX6_set_2 lk_X6_48 rfl (by decide) (by decide) (by decide) rfl rfl h (fun r1 f1 h => ?_)
  rcases r1 with _ | k1
  · replace h := h.1 rfl
    refine z_astoreN (pc := 5) (lv' := [(4, .null), (0, .ref 0), (1, .int p1), (2, .int p2), (3, .int p3)]) dX6_set_5 (Nat.le_of_ble_eq_true rfl) rfl ?_
    refine z_aloadN (pc := 7) dX6_set_7 rfl ?_
    refine z_ifnonnullN (pc := 9) dX6_set_9 ?_
    refine z_ldc (pc := 12) (v := -1000001) dX6_set_12 co_X6_52 ?_
    exact k_iret (pc := 14) hX dX6_set_14 rfl rfl h
  · replace h := h.2 k1 rfl
    have hk1 := h.1
    replace h := h.2
    refine z_astore (pc := 5) (lv' := [(4, .ref k1), (0, .ref 0), (1, .int p1), (2, .int p2), (3, .int p3)]) dX6_set_5 (Nat.le_of_ble_eq_true rfl) rfl ?_
    refine z_aload (pc := 7) dX6_set_7 rfl ?_
    refine z_ifnonnull (pc := 9) (t := 15) dX6_set_9 (by decide) ?_
    refine z_aload (pc := 15) dX6_set_15 rfl ?_
    refine k_cVi (pc := 17) (av := []) zc4 rfl dX6_set_17 lk_X6_64 rfl (by decide) (by decide) (rw_lt hk1) (rw_sh hk1) rfl h (fun r2 f2 h => ?_)
    refine z_if_eq (pc := 20) (t := 29) dX6_set_20 (by decide) (fun c_20 => ?_) (fun c_20 => ?_)
    · replace h := h.1 c_20
      refine z_aload (pc := 29) dX6_set_29 rfl ?_
      refine z_iload_n (pc := 31) dX6_set_31 rfl ?_
      refine z_iconst (pc := 32) (v := 1) dX6_set_32 ic_1 ?_
      refine k_cVi (pc := 33) (av := [.int p2, .int 1]) zc4 rfl dX6_set_33 lk_X6_68 rfl (by decide) (by decide) (rw_lt hk1) (rw_sh hk1) rfl h (fun r3 f3 h => ?_)
      refine z_if_ne (pc := 36) (t := 45) dX6_set_36 (by decide) (fun c_36 => ?_) (fun c_36 => ?_)
      · replace h := h.1 c_36
        refine z_aload (pc := 45) dX6_set_45 rfl ?_
        refine z_iload_n (pc := 47) dX6_set_47 rfl ?_
        refine z_iload_n (pc := 48) dX6_set_48 rfl ?_
        refine k_cVv (pc := 49) (av := [.int p2, .int p3]) zc4 rfl dX6_set_49 lk_X6_72 rfl (by decide) (by decide) (rw_lt hk1) (rw_sh hk1) rfl h (fun f4 h => ?_)
        refine z_aload_n (pc := 52) dX6_set_52 rfl ?_
        refine z_aload (pc := 53) dX6_set_53 rfl ?_
        refine z_iload_n (pc := 55) dX6_set_55 rfl ?_
        refine k_cVi (pc := 56) (av := [.int p2]) zc4 rfl dX6_set_56 lk_X6_75 rfl (by decide) (by decide) (rw_lt hk1) (rw_sh hk1) rfl h (fun r5 f5 h => ?_)
        refine k_cVi (pc := 59) (av := [.int r5]) zc6 rfl dX6_set_59 lk_X6_61 rfl (by decide) (by decide) (by decide) rfl rfl h (fun r6 f6 h => ?_)
        exact k_iret (pc := 62) hX dX6_set_62 rfl rfl h
      · replace h := h.2 c_36
        refine z_aload_n (pc := 39) dX6_set_39 rfl ?_
        refine z_iconst (pc := 40) (v := 2) dX6_set_40 ic_2 ?_
        refine k_cVi (pc := 41) (av := [.int 2]) zc6 rfl dX6_set_41 lk_X6_53 rfl (by decide) (by decide) (by decide) rfl rfl h (fun r7 f7 h => ?_)
        exact k_iret (pc := 44) hX dX6_set_44 rfl rfl h
    · replace h := h.2 c_20
      refine z_aload_n (pc := 23) dX6_set_23 rfl ?_
      refine z_iconst (pc := 24) (v := 1) dX6_set_24 ic_1 ?_
      refine k_cVi (pc := 25) (av := [.int 1]) zc6 rfl dX6_set_25 lk_X6_53 rfl (by decide) (by decide) (by decide) rfl rfl h (fun r8 f8 h => ?_)
      exact k_iret (pc := 28) hX dX6_set_28 rfl rfl h
set_option maxRecDepth 20000 in
theorem w_X6_trace {f : zF} {K : Int32 → zF → Prop} {p1 : Int32} (h : ci mX1_traced [.ref 22, .int p1] f (fun r1 f1 => K r1 f1)) : ci mX6_trace [.ref 0, .int p1] f K := by
  refine ci_of (by decide) (Nat.le_of_ble_eq_true rfl) (fun X hX => ?_)
  refine z_aload_n (pc := 0) dX6_trace_0 rfl ?_
  refine k_getr (pc := 1) (j := 5) zc6 dX6_trace_1 fl_X6_43 (by decide) rfl (by decide) rfl (k2 := 22) rfl ?_
  refine z_iload_n (pc := 4) dX6_trace_4 rfl ?_
  refine k_cVi (pc := 5) (av := [.int p1]) zc1 rfl dX6_trace_5 lk_X6_239 rfl (by decide) (by decide) (by decide) rfl rfl h (fun r1 f1 h => ?_)
  exact k_iret (pc := 8) hX dX6_trace_8 rfl rfl h
set_option maxRecDepth 20000 in
theorem w_X6_write {f : zF} {K : Int32 → zF → Prop} {p1 : Int32} {p2 : Int32} {p3 : Int32} (h : ci mX2_hasPlace [.ref 12, .int p1, .int p2] f (fun r1 f1 => ((r1 = 0 → K (-1000001) f1) ∧ (¬ r1 = 0 → ci mX2_hasLetter [.ref 12, .int p3] f1 (fun r2 f2 => ((¬ r2 = 0 → ci mX2_letterAt [.ref 12, .int p1, .int p2] f2 (fun r3 f3 => cv mX0_keep [.ref 18, .int p1, .int p2, .int r3] f3 (fun f4 => cv mX2_putLetter [.ref 12, .int p1, .int p2, .int p3] f4 (fun f5 => K r3 f5)))) ∧ (r2 = 0 → K (-1000001) f2))))))) : ci mX6_write [.ref 0, .int p1, .int p2, .int p3] f K := by
  refine ci_of (by decide) (Nat.le_of_ble_eq_true rfl) (fun X hX => ?_)
  refine z_aload_n (pc := 0) dX6_write_0 rfl ?_
  refine k_getr (pc := 1) (j := 3) zc6 dX6_write_1 fl_X6_29 (by decide) rfl (by decide) rfl (k2 := 12) rfl ?_
  refine z_iload_n (pc := 4) dX6_write_4 rfl ?_
  refine z_iload_n (pc := 5) dX6_write_5 rfl ?_
  refine k_cVi (pc := 6) (av := [.int p1, .int p2]) zc2 rfl dX6_write_6 lk_X6_127 rfl (by decide) (by decide) (by decide) rfl rfl h (fun r1 f1 h => ?_)
  refine z_if_eq (pc := 9) (t := 23) dX6_write_9 (by decide) (fun c_9 => ?_) (fun c_9 => ?_)
  · replace h := h.1 c_9
    refine z_ldc (pc := 23) (v := -1000001) dX6_write_23 co_X6_52 ?_
    exact k_iret (pc := 25) hX dX6_write_25 rfl rfl h
  · replace h := h.2 c_9
    refine z_aload_n (pc := 12) dX6_write_12 rfl ?_
    refine k_getr (pc := 13) (j := 3) zc6 dX6_write_13 fl_X6_29 (by decide) rfl (by decide) rfl (k2 := 12) rfl ?_
    refine z_iload_n (pc := 16) dX6_write_16 rfl ?_
    refine k_cVi (pc := 17) (av := [.int p3]) zc2 rfl dX6_write_17 lk_X6_130 rfl (by decide) (by decide) (by decide) rfl rfl h (fun r2 f2 h => ?_)
    refine z_if_ne (pc := 20) (t := 26) dX6_write_20 (by decide) (fun c_20 => ?_) (fun c_20 => ?_)
    · replace h := h.1 c_20
      refine z_aload_n (pc := 26) dX6_write_26 rfl ?_
      refine k_getr (pc := 27) (j := 3) zc6 dX6_write_27 fl_X6_29 (by decide) rfl (by decide) rfl (k2 := 12) rfl ?_
      refine z_iload_n (pc := 30) dX6_write_30 rfl ?_
      refine z_iload_n (pc := 31) dX6_write_31 rfl ?_
      refine k_cVi (pc := 32) (av := [.int p1, .int p2]) zc2 rfl dX6_write_32 lk_X6_134 rfl (by decide) (by decide) (by decide) rfl rfl h (fun r3 f3 h => ?_)
      refine z_istore (pc := 35) (lv' := [(4, .int r3), (0, .ref 0), (1, .int p1), (2, .int p2), (3, .int p3)]) dX6_write_35 (Nat.le_of_ble_eq_true rfl) rfl ?_
      refine z_aload_n (pc := 37) dX6_write_37 rfl ?_
      refine k_getr (pc := 38) (j := 4) zc6 dX6_write_38 fl_X6_36 (by decide) rfl (by decide) rfl (k2 := 18) rfl ?_
      refine z_iload_n (pc := 41) dX6_write_41 rfl ?_
      refine z_iload_n (pc := 42) dX6_write_42 rfl ?_
      refine z_iload (pc := 43) dX6_write_43 rfl ?_
      refine k_cVv (pc := 45) (av := [.int p1, .int p2, .int r3]) zc0 rfl dX6_write_45 lk_X6_138 rfl (by decide) (by decide) (by decide) rfl rfl h (fun f4 h => ?_)
      refine z_aload_n (pc := 48) dX6_write_48 rfl ?_
      refine k_getr (pc := 49) (j := 3) zc6 dX6_write_49 fl_X6_29 (by decide) rfl (by decide) rfl (k2 := 12) rfl ?_
      refine z_iload_n (pc := 52) dX6_write_52 rfl ?_
      refine z_iload_n (pc := 53) dX6_write_53 rfl ?_
      refine z_iload_n (pc := 54) dX6_write_54 rfl ?_
      refine k_cVv (pc := 55) (av := [.int p1, .int p2, .int p3]) zc2 rfl dX6_write_55 lk_X6_142 rfl (by decide) (by decide) (by decide) rfl rfl h (fun f5 h => ?_)
      refine z_iload (pc := 58) dX6_write_58 rfl ?_
      exact k_iret (pc := 60) hX dX6_write_60 rfl rfl h
    · replace h := h.2 c_20
      refine z_ldc (pc := 23) (v := -1000001) dX6_write_23 co_X6_52 ?_
      exact k_iret (pc := 25) hX dX6_write_25 rfl rfl h
set_option maxRecDepth 20000 in
theorem w_X7_as {f : zF} {K : Int32 → zF → Prop} {p1 : Int32} {p2 : Int32} (h : ci mX7_isOne [.ref 52, .int p1] (zup f 52 0 0) (fun r1 f1 => ((r1 = 0 → K (-1000001) f1) ∧ (¬ r1 = 0 → ci mX7_in [.long (Int32.toInt64 p2), .long 0, .long 5] f1 (fun r2 f2 => ((¬ r2 = 0 → ci mX7_kindOf [.ref 52, .int p1] (zup f2 52 1 0) (fun r3 f3 => ci mX7_isOf [.int r3, .int p2] f3 (fun r4 f4 => ((r4 = 0 → ci mX7_finding [.ref 52, .int 3] f4 (fun r5 f5 => K r5 f5)) ∧ (¬ r4 = 0 → K p1 f4))))) ∧ (r2 = 0 → K (-1000001) f2))))))) : ci mX7_as [.ref 52, .int p1, .int p2] f K := by
  refine ci_of (by decide) (Nat.le_of_ble_eq_true rfl) (fun X hX => ?_)
  refine z_aload_n (pc := 0) dX7_as_0 rfl ?_
  refine z_iconst (pc := 1) (v := 0) dX7_as_1 ic_0 ?_
  refine k_puti (pc := 2) (j := 0) zc7 dX7_as_2 fl_X7_41 (by decide) rfl rfl rfl (by decide) rfl ?_
  refine z_aload_n (pc := 5) dX7_as_5 rfl ?_
  refine z_iload_n (pc := 6) dX7_as_6 rfl ?_
  refine k_cVi (pc := 7) (av := [.int p1]) zc7 rfl dX7_as_7 lk_X7_203 rfl (by decide) (by decide) (by decide) rfl rfl h (fun r1 f1 h => ?_)
  refine z_if_eq (pc := 10) (t := 25) dX7_as_10 (by decide) (fun c_10 => ?_) (fun c_10 => ?_)
  · replace h := h.1 c_10
    refine z_ldc (pc := 25) (v := -1000001) dX7_as_25 co_X7_61 ?_
    exact k_iret (pc := 27) hX dX7_as_27 rfl rfl h
  · replace h := h.2 c_10
    refine z_iload_n (pc := 13) dX7_as_13 rfl ?_
    refine z_i2l (pc := 14) dX7_as_14 ?_
    refine z_lconst (pc := 15) (v := 0) dX7_as_15 rfl ?_
    refine z_ldc2 (pc := 16) (v := 5) dX7_as_16 co_X7_242 ?_
    refine k_cSi (pc := 19) (av := [.long (Int32.toInt64 p2), .long 0, .long 5]) dX7_as_19 lk_X7_51 rfl (by decide) (by decide) rfl h (fun r2 f2 h => ?_)
    refine z_if_ne (pc := 22) (t := 28) dX7_as_22 (by decide) (fun c_22 => ?_) (fun c_22 => ?_)
    · replace h := h.1 c_22
      refine z_aload_n (pc := 28) dX7_as_28 rfl ?_
      refine z_iconst (pc := 29) (v := 0) dX7_as_29 ic_0 ?_
      refine k_puti (pc := 30) (j := 1) zc7 dX7_as_30 fl_X7_45 (by decide) rfl rfl rfl (by decide) rfl ?_
      refine z_aload_n (pc := 33) dX7_as_33 rfl ?_
      refine z_iload_n (pc := 34) dX7_as_34 rfl ?_
      refine k_cVi (pc := 35) (av := [.int p1]) zc7 rfl dX7_as_35 lk_X7_173 rfl (by decide) (by decide) (by decide) rfl rfl h (fun r3 f3 h => ?_)
      refine z_iload_n (pc := 38) dX7_as_38 rfl ?_
      refine k_cSi (pc := 39) (av := [.int r3, .int p2]) dX7_as_39 lk_X7_244 rfl (by decide) (by decide) rfl h (fun r4 f4 h => ?_)
      refine z_if_eq (pc := 42) (t := 49) dX7_as_42 (by decide) (fun c_42 => ?_) (fun c_42 => ?_)
      · replace h := h.1 c_42
        refine z_aload_n (pc := 49) dX7_as_49 rfl ?_
        refine z_iconst (pc := 50) (v := 3) dX7_as_50 ic_3 ?_
        refine k_cVi (pc := 51) (av := [.int 3]) zc7 rfl dX7_as_51 lk_X7_62 rfl (by decide) (by decide) (by decide) rfl rfl h (fun r5 f5 h => ?_)
        exact k_iret (pc := 54) hX dX7_as_54 rfl rfl h
      · replace h := h.2 c_42
        refine z_iload_n (pc := 45) dX7_as_45 rfl ?_
        refine z_goto (pc := 46) (t := 54) dX7_as_46 (by decide) ?_
        exact k_iret (pc := 54) hX dX7_as_54 rfl rfl h
    · replace h := h.2 c_22
      refine z_ldc (pc := 25) (v := -1000001) dX7_as_25 co_X7_61 ?_
      exact k_iret (pc := 27) hX dX7_as_27 rfl rfl h
set_option maxRecDepth 20000 in
theorem w_X7_at {f : zF} {K : Int32 → zF → Prop} {p1 : Int32} {p2 : Int32} (h : ci mX7_isSide [.int p1] (zup f 52 0 0) (fun r1 f1 => ((r1 = 0 → K (-1000001) f1) ∧ (¬ r1 = 0 → ci mX7_isPlace [.ref 52, .int p2] f1 (fun r2 f2 => ((r2 = 0 → K (-1000001) f2) ∧ (¬ r2 = 0 → ci mX7_on [.ref 52, .int p1, .int p2] f2 (fun r3 f3 => K r3 f3)))))))) : ci mX7_at [.ref 52, .int p1, .int p2] f K := by
  refine ci_of (by decide) (Nat.le_of_ble_eq_true rfl) (fun X hX => ?_)
  refine z_aload_n (pc := 0) dX7_at_0 rfl ?_
  refine z_iconst (pc := 1) (v := 0) dX7_at_1 ic_0 ?_
  refine k_puti (pc := 2) (j := 0) zc7 dX7_at_2 fl_X7_41 (by decide) rfl rfl rfl (by decide) rfl ?_
  refine z_iload_n (pc := 5) dX7_at_5 rfl ?_
  refine k_cSi (pc := 6) (av := [.int p1]) dX7_at_6 lk_X7_197 rfl (by decide) (by decide) rfl h (fun r1 f1 h => ?_)
  refine z_if_eq (pc := 9) (t := 29) dX7_at_9 (by decide) (fun c_9 => ?_) (fun c_9 => ?_)
  · replace h := h.1 c_9
    refine z_ldc (pc := 29) (v := -1000001) dX7_at_29 co_X7_61 ?_
    exact k_iret (pc := 31) hX dX7_at_31 rfl rfl h
  · replace h := h.2 c_9
    refine z_aload_n (pc := 12) dX7_at_12 rfl ?_
    refine z_iload_n (pc := 13) dX7_at_13 rfl ?_
    refine k_cVi (pc := 14) (av := [.int p2]) zc7 rfl dX7_at_14 lk_X7_200 rfl (by decide) (by decide) (by decide) rfl rfl h (fun r2 f2 h => ?_)
    refine z_if_eq (pc := 17) (t := 29) dX7_at_17 (by decide) (fun c_17 => ?_) (fun c_17 => ?_)
    · replace h := h.1 c_17
      refine z_ldc (pc := 29) (v := -1000001) dX7_at_29 co_X7_61 ?_
      exact k_iret (pc := 31) hX dX7_at_31 rfl rfl h
    · replace h := h.2 c_17
      refine z_aload_n (pc := 20) dX7_at_20 rfl ?_
      refine z_iload_n (pc := 21) dX7_at_21 rfl ?_
      refine z_iload_n (pc := 22) dX7_at_22 rfl ?_
      refine k_cVi (pc := 23) (av := [.int p1, .int p2]) zc7 rfl dX7_at_23 lk_X7_170 rfl (by decide) (by decide) (by decide) rfl rfl h (fun r3 f3 h => ?_)
      refine z_goto (pc := 26) (t := 31) dX7_at_26 (by decide) ?_
      exact k_iret (pc := 31) hX dX7_at_31 rfl rfl h
set_option maxRecDepth 20000 in
theorem w_X7_begin {f : zF} {K : zF → Prop}  (h : cv mX7_next [.ref 52] (zup (zup (zup (zup f 52 12 (f 52 10)) 52 10 0) 52 13 0) 52 17 0) (fun f1 => K f1)) : cv mX7_begin [.ref 52] f K := by
  refine cv_of (by decide) (Nat.le_of_ble_eq_true rfl) (fun X hX => ?_)
  refine z_aload_n (pc := 0) dX7_begin_0 rfl ?_
  refine z_aload_n (pc := 1) dX7_begin_1 rfl ?_
  refine k_geti (pc := 2) (j := 10) zc7 dX7_begin_2 fl_X7_68 (by decide) rfl (by decide) rfl (v := (f 52 10)) rfl ?_
  refine k_puti (pc := 5) (j := 12) zc7 dX7_begin_5 fl_X7_74 (by decide) rfl rfl rfl (by decide) rfl ?_
  refine z_aload_n (pc := 8) dX7_begin_8 rfl ?_
  refine z_iconst (pc := 9) (v := 0) dX7_begin_9 ic_0 ?_
  refine k_puti (pc := 10) (j := 10) zc7 dX7_begin_10 fl_X7_68 (by decide) rfl rfl rfl (by decide) rfl ?_
  refine z_aload_n (pc := 13) dX7_begin_13 rfl ?_
  refine z_iconst (pc := 14) (v := 0) dX7_begin_14 ic_0 ?_
  refine k_puti (pc := 15) (j := 13) zc7 dX7_begin_15 fl_X7_78 (by decide) rfl rfl rfl (by decide) rfl ?_
  refine z_aload_n (pc := 18) dX7_begin_18 rfl ?_
  refine z_iconst (pc := 19) (v := 0) dX7_begin_19 ic_0 ?_
  refine k_puti (pc := 20) (j := 17) zc7 dX7_begin_20 fl_X7_99 (by decide) rfl rfl rfl (by decide) rfl ?_
  refine z_aload_n (pc := 23) dX7_begin_23 rfl ?_
  refine k_cVv (pc := 24) (av := []) zc7 rfl dX7_begin_24 lk_X7_102 rfl (by decide) (by decide) (by decide) rfl rfl h (fun f1 h => ?_)
  exact k_vret (pc := 27) hX dX7_begin_27 rfl h
set_option maxRecDepth 20000 in
theorem w_X7_copy {f : zF} {K : Int32 → zF → Prop} {p1 : Int32} {p2 : Int32} {p3 : Int32} {p4 : Int32} {p5 : Int32} (h : ∀ X, kR X (zRi K) → ci mX7_isRow [.int p1] (zup f 52 0 0) (fun r1 f1 => ((r1 = 0 → K (-1000001) f1) ∧ (¬ r1 = 0 → ci mX7_isRow [.int p3] f1 (fun r2 f2 => ((¬ r2 = 0 → (vp_in p1 8 ∧ (((f2 53 (Int32.toNatClampNeg p1)) < 0 → ci mX7_finding [.ref 52, .int 1] (zup f2 52 1 0) (fun r3 f3 => K r3 f3)) ∧ (¬ (f2 53 (Int32.toNatClampNeg p1)) < 0 → (vp_in p3 8 ∧ ((0 ≤ (f2 53 (Int32.toNatClampNeg p3)) → (vp_in p1 8 ∧ (vp_in p3 8 ∧ (((f2 53 (Int32.toNatClampNeg p1)) = (f2 53 (Int32.toNatClampNeg p3)) → ((p2 < 0 → ci mX7_finding [.ref 52, .int 2] (zup f2 52 1 0) (fun r4 f4 => K r4 f4)) ∧ (¬ p2 < 0 → ((p4 < 0 → ci mX7_finding [.ref 52, .int 2] (zup f2 52 1 0) (fun r5 f5 => K r5 f5)) ∧ (¬ p4 < 0 → ((p5 < 0 → ci mX7_finding [.ref 52, .int 2] (zup f2 52 1 0) (fun r6 f6 => K r6 f6)) ∧ (¬ p5 < 0 → (vp_in p1 8 ∧ (∀ z7 : Int32, z7 = (lg_cmp ((Int32.toInt64 p2) + (Int32.toInt64 p5)) (Int32.toInt64 (f2 54 (Int32.toNatClampNeg p1)))) → ((0 < z7 → ci mX7_finding [.ref 52, .int 2] (zup f2 52 1 0) (fun r8 f8 => K r8 f8)) ∧ (¬ 0 < z7 → (vp_in p3 8 ∧ (∀ z9 : Int32, z9 = (lg_cmp ((Int32.toInt64 p4) + (Int32.toInt64 p5)) (Int32.toInt64 (f2 54 (Int32.toNatClampNeg p3)))) → ((z9 ≤ 0 → (∀ z10 : Int32, z10 = (if p2 < p4 then 0 else 1) → Z X mX7_copy 143 [(0, .ref 52), (1, .int p1), (2, .int p2), (3, .int p3), (4, .int p4), (5, .int p5), (6, .int z10), (7, .int 0)] [] (zC (zup f2 52 1 0)))) ∧ (¬ z9 ≤ 0 → ci mX7_finding [.ref 52, .int 2] (zup f2 52 1 0) (fun r12 f12 => K r12 f12)))))))))))))))) ∧ (¬ (f2 53 (Int32.toNatClampNeg p1)) = (f2 53 (Int32.toNatClampNeg p3)) → ci mX7_finding [.ref 52, .int 5] (zup f2 52 1 0) (fun r13 f13 => K r13 f13)))))) ∧ (¬ 0 ≤ (f2 53 (Int32.toNatClampNeg p3)) → ci mX7_finding [.ref 52, .int 1] (zup f2 52 1 0) (fun r14 f14 => K r14 f14)))))))) ∧ (r2 = 0 → K (-1000001) f2))))))) : ci mX7_copy [.ref 52, .int p1, .int p2, .int p3, .int p4, .int p5] f K := by
  refine ci_of (by decide) (Nat.le_of_ble_eq_true rfl) (fun X hX => ?_)
  replace h := h X hX
  refine z_aload_n (pc := 0) dX7_copy_0 rfl ?_
  refine z_iconst (pc := 1) (v := 0) dX7_copy_1 ic_0 ?_
  refine k_puti (pc := 2) (j := 0) zc7 dX7_copy_2 fl_X7_41 (by decide) rfl rfl rfl (by decide) rfl ?_
  refine z_iload_n (pc := 5) dX7_copy_5 rfl ?_
  refine k_cSi (pc := 6) (av := [.int p1]) dX7_copy_6 lk_X7_55 rfl (by decide) (by decide) rfl h (fun r1 f1 h => ?_)
  refine z_if_eq (pc := 9) (t := 19) dX7_copy_9 (by decide) (fun c_9 => ?_) (fun c_9 => ?_)
  · replace h := h.1 c_9
    refine z_ldc (pc := 19) (v := -1000001) dX7_copy_19 co_X7_61 ?_
    exact k_iret (pc := 21) hX dX7_copy_21 rfl rfl h
  · replace h := h.2 c_9
    refine z_iload_n (pc := 12) dX7_copy_12 rfl ?_
    refine k_cSi (pc := 13) (av := [.int p3]) dX7_copy_13 lk_X7_55 rfl (by decide) (by decide) rfl h (fun r2 f2 h => ?_)
    refine z_if_ne (pc := 16) (t := 22) dX7_copy_16 (by decide) (fun c_16 => ?_) (fun c_16 => ?_)
    · replace h := h.1 c_16
      refine z_aload_n (pc := 22) dX7_copy_22 rfl ?_
      refine z_iconst (pc := 23) (v := 0) dX7_copy_23 ic_0 ?_
      refine k_puti (pc := 24) (j := 1) zc7 dX7_copy_24 fl_X7_45 (by decide) rfl rfl rfl (by decide) rfl ?_
      refine z_aload_n (pc := 27) dX7_copy_27 rfl ?_
      refine k_getr (pc := 28) (j := 2) zc7 dX7_copy_28 fl_X7_7 (by decide) rfl (by decide) rfl (k2 := 53) rfl ?_
      refine z_iload_n (pc := 31) dX7_copy_31 rfl ?_
      refine k_iald (pc := 32) (j := (Int32.toNatClampNeg p1)) (v := (f2 53 (Int32.toNatClampNeg p1))) dX7_copy_32 (by decide) rfl h.1 rfl (by simp [zup]) ?_
      replace h := h.2
      refine z_if_lt (pc := 33) (t := 45) dX7_copy_33 (by decide) (fun c_33 => ?_) (fun c_33 => ?_)
      · replace h := h.1 c_33
        refine z_aload_n (pc := 45) dX7_copy_45 rfl ?_
        refine z_iconst (pc := 46) (v := 1) dX7_copy_46 ic_1 ?_
        refine k_cVi (pc := 47) (av := [.int 1]) zc7 rfl dX7_copy_47 lk_X7_62 rfl (by decide) (by decide) (by decide) rfl rfl h (fun r3 f3 h => ?_)
        exact k_iret (pc := 50) hX dX7_copy_50 rfl rfl h
      · replace h := h.2 c_33
        refine z_aload_n (pc := 36) dX7_copy_36 rfl ?_
        refine k_getr (pc := 37) (j := 2) zc7 dX7_copy_37 fl_X7_7 (by decide) rfl (by decide) rfl (k2 := 53) rfl ?_
        refine z_iload_n (pc := 40) dX7_copy_40 rfl ?_
        refine k_iald (pc := 41) (j := (Int32.toNatClampNeg p3)) (v := (f2 53 (Int32.toNatClampNeg p3))) dX7_copy_41 (by decide) rfl h.1 rfl (by simp [zup]) ?_
        replace h := h.2
        refine z_if_ge (pc := 42) (t := 51) dX7_copy_42 (by decide) (fun c_42 => ?_) (fun c_42 => ?_)
        · replace h := h.1 c_42
          refine z_aload_n (pc := 51) dX7_copy_51 rfl ?_
          refine k_getr (pc := 52) (j := 2) zc7 dX7_copy_52 fl_X7_7 (by decide) rfl (by decide) rfl (k2 := 53) rfl ?_
          refine z_iload_n (pc := 55) dX7_copy_55 rfl ?_
          refine k_iald (pc := 56) (j := (Int32.toNatClampNeg p1)) (v := (f2 53 (Int32.toNatClampNeg p1))) dX7_copy_56 (by decide) rfl h.1 rfl (by simp [zup]) ?_
          replace h := h.2
          refine z_aload_n (pc := 57) dX7_copy_57 rfl ?_
          refine k_getr (pc := 58) (j := 2) zc7 dX7_copy_58 fl_X7_7 (by decide) rfl (by decide) rfl (k2 := 53) rfl ?_
          refine z_iload_n (pc := 61) dX7_copy_61 rfl ?_
          refine k_iald (pc := 62) (j := (Int32.toNatClampNeg p3)) (v := (f2 53 (Int32.toNatClampNeg p3))) dX7_copy_62 (by decide) rfl h.1 rfl (by simp [zup]) ?_
          replace h := h.2
          refine z_icmp_eq (pc := 63) (t := 72) dX7_copy_63 (by decide) (fun c_63 => ?_) (fun c_63 => ?_)
          · replace h := h.1 c_63
            refine z_iload_n (pc := 72) dX7_copy_72 rfl ?_
            refine z_if_lt (pc := 73) (t := 121) dX7_copy_73 (by decide) (fun c_73 => ?_) (fun c_73 => ?_)
            · replace h := h.1 c_73
              refine z_aload_n (pc := 121) dX7_copy_121 rfl ?_
              refine z_iconst (pc := 122) (v := 2) dX7_copy_122 ic_2 ?_
              refine k_cVi (pc := 123) (av := [.int 2]) zc7 rfl dX7_copy_123 lk_X7_62 rfl (by decide) (by decide) (by decide) rfl rfl h (fun r4 f4 h => ?_)
              exact k_iret (pc := 126) hX dX7_copy_126 rfl rfl h
            · replace h := h.2 c_73
              refine z_iload (pc := 76) dX7_copy_76 rfl ?_
              refine z_if_lt (pc := 78) (t := 121) dX7_copy_78 (by decide) (fun c_78 => ?_) (fun c_78 => ?_)
              · replace h := h.1 c_78
                refine z_aload_n (pc := 121) dX7_copy_121 rfl ?_
                refine z_iconst (pc := 122) (v := 2) dX7_copy_122 ic_2 ?_
                refine k_cVi (pc := 123) (av := [.int 2]) zc7 rfl dX7_copy_123 lk_X7_62 rfl (by decide) (by decide) (by decide) rfl rfl h (fun r5 f5 h => ?_)
                exact k_iret (pc := 126) hX dX7_copy_126 rfl rfl h
              · replace h := h.2 c_78
                refine z_iload (pc := 81) dX7_copy_81 rfl ?_
                refine z_if_lt (pc := 83) (t := 121) dX7_copy_83 (by decide) (fun c_83 => ?_) (fun c_83 => ?_)
                · replace h := h.1 c_83
                  refine z_aload_n (pc := 121) dX7_copy_121 rfl ?_
                  refine z_iconst (pc := 122) (v := 2) dX7_copy_122 ic_2 ?_
                  refine k_cVi (pc := 123) (av := [.int 2]) zc7 rfl dX7_copy_123 lk_X7_62 rfl (by decide) (by decide) (by decide) rfl rfl h (fun r6 f6 h => ?_)
                  exact k_iret (pc := 126) hX dX7_copy_126 rfl rfl h
                · replace h := h.2 c_83
                  refine z_iload_n (pc := 86) dX7_copy_86 rfl ?_
                  refine z_i2l (pc := 87) dX7_copy_87 ?_
                  refine z_iload (pc := 88) dX7_copy_88 rfl ?_
                  refine z_i2l (pc := 90) dX7_copy_90 ?_
                  refine z_ladd (pc := 91) dX7_copy_91 ?_
                  refine z_aload_n (pc := 92) dX7_copy_92 rfl ?_
                  refine k_getr (pc := 93) (j := 3) zc7 dX7_copy_93 fl_X7_13 (by decide) rfl (by decide) rfl (k2 := 54) rfl ?_
                  refine z_iload_n (pc := 96) dX7_copy_96 rfl ?_
                  refine k_iald (pc := 97) (j := (Int32.toNatClampNeg p1)) (v := (f2 54 (Int32.toNatClampNeg p1))) dX7_copy_97 (by decide) rfl h.1 rfl (by simp [zup]) ?_
                  replace h := h.2
                  refine z_i2l (pc := 98) dX7_copy_98 ?_
                  refine z_lcmp (pc := 99) dX7_copy_99 ?_
                  refine z_name (fun z7 e_z7 => ?_)
                  replace h := h z7 e_z7
                  refine z_if_gt (pc := 100) (t := 121) dX7_copy_100 (by decide) (fun c_100 => ?_) (fun c_100 => ?_)
                  · replace h := h.1 c_100
                    refine z_aload_n (pc := 121) dX7_copy_121 rfl ?_
                    refine z_iconst (pc := 122) (v := 2) dX7_copy_122 ic_2 ?_
                    refine k_cVi (pc := 123) (av := [.int 2]) zc7 rfl dX7_copy_123 lk_X7_62 rfl (by decide) (by decide) (by decide) rfl rfl h (fun r8 f8 h => ?_)
                    exact k_iret (pc := 126) hX dX7_copy_126 rfl rfl h
                  · replace h := h.2 c_100
                    refine z_iload (pc := 103) dX7_copy_103 rfl ?_
                    refine z_i2l (pc := 105) dX7_copy_105 ?_
                    refine z_iload (pc := 106) dX7_copy_106 rfl ?_
                    refine z_i2l (pc := 108) dX7_copy_108 ?_
                    refine z_ladd (pc := 109) dX7_copy_109 ?_
                    refine z_aload_n (pc := 110) dX7_copy_110 rfl ?_
                    refine k_getr (pc := 111) (j := 3) zc7 dX7_copy_111 fl_X7_13 (by decide) rfl (by decide) rfl (k2 := 54) rfl ?_
                    refine z_iload_n (pc := 114) dX7_copy_114 rfl ?_
                    refine k_iald (pc := 115) (j := (Int32.toNatClampNeg p3)) (v := (f2 54 (Int32.toNatClampNeg p3))) dX7_copy_115 (by decide) rfl h.1 rfl (by simp [zup]) ?_
                    replace h := h.2
                    refine z_i2l (pc := 116) dX7_copy_116 ?_
                    refine z_lcmp (pc := 117) dX7_copy_117 ?_
                    refine z_name (fun z9 e_z9 => ?_)
                    replace h := h z9 e_z9
                    refine z_if_le (pc := 118) (t := 127) dX7_copy_118 (by decide) (fun c_118 => ?_) (fun c_118 => ?_)
                    · replace h := h.1 c_118
                      refine z_iload_n (pc := 127) dX7_copy_127 rfl ?_
                      refine z_iload (pc := 128) dX7_copy_128 rfl ?_
                      suffices hm11 : Z X mX7_copy 138 [(0, .ref 52), (1, .int p1), (2, .int p2), (3, .int p3), (4, .int p4), (5, .int p5)] [.int (if p2 < p4 then 0 else 1)] (zC (zup f2 52 1 0)) by
                        refine z_icmp_lt (pc := 130) (t := 137) dX7_copy_130 (by decide) (fun c_130 => ?_) (fun c_130 => ?_)
                        · rw [if_pos c_130] at hm11
                          refine z_iconst (pc := 137) (v := 0) dX7_copy_137 ic_0 ?_
                          exact hm11
                        · rw [if_neg c_130] at hm11
                          refine z_iconst (pc := 133) (v := 1) dX7_copy_133 ic_1 ?_
                          refine z_goto (pc := 134) (t := 138) dX7_copy_134 (by decide) ?_
                          exact hm11
                      refine z_name (fun z10 e_z10 => ?_)
                      replace h := h z10 e_z10
                      refine z_istore (pc := 138) (lv' := [(6, .int z10), (0, .ref 52), (1, .int p1), (2, .int p2), (3, .int p3), (4, .int p4), (5, .int p5)]) dX7_copy_138 (Nat.le_of_ble_eq_true rfl) rfl ?_
                      refine z_iconst (pc := 140) (v := 0) dX7_copy_140 ic_0 ?_
                      refine z_istore (pc := 141) (lv' := [(7, .int 0), (6, .int z10), (0, .ref 52), (1, .int p1), (2, .int p2), (3, .int p3), (4, .int p4), (5, .int p5)]) dX7_copy_141 (Nat.le_of_ble_eq_true rfl) rfl ?_
                      exact z_sub [2, 3, 4, 5, 6, 7, 1, 0] rfl h
                    · replace h := h.2 c_118
                      refine z_aload_n (pc := 121) dX7_copy_121 rfl ?_
                      refine z_iconst (pc := 122) (v := 2) dX7_copy_122 ic_2 ?_
                      refine k_cVi (pc := 123) (av := [.int 2]) zc7 rfl dX7_copy_123 lk_X7_62 rfl (by decide) (by decide) (by decide) rfl rfl h (fun r12 f12 h => ?_)
                      exact k_iret (pc := 126) hX dX7_copy_126 rfl rfl h
          · replace h := h.2 c_63
            refine z_aload_n (pc := 66) dX7_copy_66 rfl ?_
            refine z_iconst (pc := 67) (v := 5) dX7_copy_67 ic_5 ?_
            refine k_cVi (pc := 68) (av := [.int 5]) zc7 rfl dX7_copy_68 lk_X7_62 rfl (by decide) (by decide) (by decide) rfl rfl h (fun r13 f13 h => ?_)
            exact k_iret (pc := 71) hX dX7_copy_71 rfl rfl h
        · replace h := h.2 c_42
          refine z_aload_n (pc := 45) dX7_copy_45 rfl ?_
          refine z_iconst (pc := 46) (v := 1) dX7_copy_46 ic_1 ?_
          refine k_cVi (pc := 47) (av := [.int 1]) zc7 rfl dX7_copy_47 lk_X7_62 rfl (by decide) (by decide) (by decide) rfl rfl h (fun r14 f14 h => ?_)
          exact k_iret (pc := 50) hX dX7_copy_50 rfl rfl h
    · replace h := h.2 c_16
      refine z_ldc (pc := 19) (v := -1000001) dX7_copy_19 co_X7_61 ?_
      exact k_iret (pc := 21) hX dX7_copy_21 rfl rfl h
set_option maxRecDepth 20000 in
theorem l_X7_copy_143 {X : zX} {f : zF} {K : Int32 → zF → Prop}  {x1 x2 x3 x4 x5 x6 x7 : Int32}  (hX : kR X (zRi K)) (h : ((x5 ≤ x7 → K x5 f) ∧ (¬ x5 ≤ x7 → (∀ z115 : Int32, z115 = (if x6 = 0 then ((x5 - 1) - x7) else x7) → (vp_in (((40 * x1) + x2) + z115) 320 ∧ (vp_in (((40 * x3) + x4) + z115) 320 ∧ Z X mX7_copy 143 [(0, .ref 52), (1, .int x1), (2, .int x2), (3, .int x3), (4, .int x4), (5, .int x5), (6, .int x6), (7, .int (x7 + 1))] [] (zC (zup f 55 (Int32.toNatClampNeg (((40 * x3) + x4) + z115)) (f 55 (Int32.toNatClampNeg (((40 * x1) + x2) + z115))))))))))) : Z X mX7_copy 143 [(0, .ref 52), (1, .int x1), (2, .int x2), (3, .int x3), (4, .int x4), (5, .int x5), (6, .int x6), (7, .int x7)] [] (zC f) := by
  refine z_iload (pc := 143) dX7_copy_143 rfl ?_
  refine z_iload (pc := 145) dX7_copy_145 rfl ?_
  refine z_icmp_ge (pc := 147) (t := 204) dX7_copy_147 (by decide) (fun c_147 => ?_) (fun c_147 => ?_)
  · replace h := h.1 c_147
    refine z_iload (pc := 204) dX7_copy_204 rfl ?_
    exact k_iret (pc := 206) hX dX7_copy_206 rfl rfl h
  · replace h := h.2 c_147
    refine z_iload (pc := 150) dX7_copy_150 rfl ?_
    suffices hm116 : Z X mX7_copy 167 [(0, .ref 52), (1, .int x1), (2, .int x2), (3, .int x3), (4, .int x4), (5, .int x5), (6, .int x6), (7, .int x7)] [.int (if x6 = 0 then ((x5 - 1) - x7) else x7)] (zC f) by
      refine z_if_eq (pc := 152) (t := 160) dX7_copy_152 (by decide) (fun c_152 => ?_) (fun c_152 => ?_)
      · rw [if_pos c_152] at hm116
        refine z_iload (pc := 160) dX7_copy_160 rfl ?_
        refine z_iconst (pc := 162) (v := 1) dX7_copy_162 ic_1 ?_
        refine z_isub (pc := 163) dX7_copy_163 ?_
        refine z_iload (pc := 164) dX7_copy_164 rfl ?_
        refine z_isub (pc := 166) dX7_copy_166 ?_
        exact hm116
      · rw [if_neg c_152] at hm116
        refine z_iload (pc := 155) dX7_copy_155 rfl ?_
        refine z_goto (pc := 157) (t := 167) dX7_copy_157 (by decide) ?_
        exact hm116
    refine z_name (fun z115 e_z115 => ?_)
    replace h := h z115 e_z115
    refine z_istore (pc := 167) (lv' := [(8, .int z115), (0, .ref 52), (1, .int x1), (2, .int x2), (3, .int x3), (4, .int x4), (5, .int x5), (6, .int x6), (7, .int x7)]) dX7_copy_167 (Nat.le_of_ble_eq_true rfl) rfl ?_
    refine z_aload_n (pc := 169) dX7_copy_169 rfl ?_
    refine k_getr (pc := 170) (j := 4) zc7 dX7_copy_170 fl_X7_16 (by decide) rfl (by decide) rfl (k2 := 55) rfl ?_
    refine z_bipush (pc := 173) (v := 40) dX7_copy_173 bi_40 ?_
    refine z_iload_n (pc := 175) dX7_copy_175 rfl ?_
    refine z_imul (pc := 176) dX7_copy_176 ?_
    refine z_iload (pc := 177) dX7_copy_177 rfl ?_
    refine z_iadd (pc := 179) dX7_copy_179 ?_
    refine z_iload (pc := 180) dX7_copy_180 rfl ?_
    refine z_iadd (pc := 182) dX7_copy_182 ?_
    refine z_aload_n (pc := 183) dX7_copy_183 rfl ?_
    refine k_getr (pc := 184) (j := 4) zc7 dX7_copy_184 fl_X7_16 (by decide) rfl (by decide) rfl (k2 := 55) rfl ?_
    refine z_bipush (pc := 187) (v := 40) dX7_copy_187 bi_40 ?_
    refine z_iload_n (pc := 189) dX7_copy_189 rfl ?_
    refine z_imul (pc := 190) dX7_copy_190 ?_
    refine z_iload_n (pc := 191) dX7_copy_191 rfl ?_
    refine z_iadd (pc := 192) dX7_copy_192 ?_
    refine z_iload (pc := 193) dX7_copy_193 rfl ?_
    refine z_iadd (pc := 195) dX7_copy_195 ?_
    refine k_iald (pc := 196) (j := (Int32.toNatClampNeg (((40 * x1) + x2) + z115))) (v := (f 55 (Int32.toNatClampNeg (((40 * x1) + x2) + z115)))) dX7_copy_196 (by decide) rfl h.1 rfl rfl ?_
    replace h := h.2
    refine k_iast (pc := 197) (j := (Int32.toNatClampNeg (((40 * x3) + x4) + z115))) dX7_copy_197 (by decide) rfl h.1 rfl ?_
    replace h := h.2
    refine z_iinc (pc := 198) (v := (x7 + 1)) (lv' := [(7, .int (x7 + 1)), (8, .int z115), (0, .ref 52), (1, .int x1), (2, .int x2), (3, .int x3), (4, .int x4), (5, .int x5), (6, .int x6)]) dX7_copy_198 rfl (congrArg (fun z => x7 + z) ic_1) (Nat.le_of_ble_eq_true rfl) rfl ?_
    refine z_goto (pc := 201) (t := 143) dX7_copy_201 (by decide) ?_
    exact z_sub [2, 3, 4, 5, 6, 7, 8, 0] rfl h
set_option maxRecDepth 20000 in
theorem w_X7_damp {f : zF} {K : Int32 → zF → Prop} {p1 : Int32} {p2 : Int32} {p3 : Int32} {p4 : Int32} (h : ci mX7_isSide [.int p1] (zup f 52 0 0) (fun r1 f1 => ((r1 = 0 → K (-1000001) f1) ∧ (¬ r1 = 0 → ci mX7_isPlace [.ref 52, .int p2] f1 (fun r2 f2 => ((r2 = 0 → K (-1000001) f2) ∧ (¬ r2 = 0 → ci mX7_in [.long (Int32.toInt64 p3), .long 0, .long 30] f2 (fun r3 f3 => ((r3 = 0 → K (-1000001) f3) ∧ (¬ r3 = 0 → ci mX7_in [.long (Int32.toInt64 p4), .long 0, .long 1] f3 (fun r4 f4 => ((¬ r4 = 0 → ci mX7_behindOf [.ref 52, .int p1, .int p2] f4 (fun r5 f5 => ci mX7_kindOf [.ref 52, .int r5] f5 (fun r6 f6 => ((¬ r6 = 2 → ci mX7_kindOf [.ref 52, .int r5] f6 (fun r7 f7 => ((¬ r7 = 3 → ci mX7_on [.ref 52, .int p1, .int p2] f7 (fun r8 f8 => ci mX7_cellsOf [.ref 52, .int r8] f8 (fun r9 f9 => (((f7 56 0) ≤ p3 → ci mX7_throughOf [.ref 52, .int r5] f9 (fun r10 f10 => ((¬ p4 = 0 → ci mX7_readOf [.ref 52, .int (r9 ||| r10)] f10 (fun r11 f11 => K r11 f11)) ∧ (p4 = 0 → K (r9 ||| r10) f10)))) ∧ (¬ (f7 56 0) ≤ p3 → ((¬ p4 = 0 → ci mX7_readOf [.ref 52, .int (r9 ||| 0)] f9 (fun r12 f12 => K r12 f12)) ∧ (p4 = 0 → K (r9 ||| 0) f9))))))) ∧ (r7 = 3 → ci mX7_on [.ref 52, .int p1, .int p2] f7 (fun r13 f13 => ci mX7_cellsOf [.ref 52, .int r13] f13 (fun r14 f14 => (((2 * (f7 56 0)) ≤ p3 → ci mX7_throughOf [.ref 52, .int r5] f14 (fun r15 f15 => ((¬ p4 = 0 → ci mX7_readOf [.ref 52, .int (r14 ||| r15)] f15 (fun r16 f16 => K r16 f16)) ∧ (p4 = 0 → K (r14 ||| r15) f15)))) ∧ (¬ (2 * (f7 56 0)) ≤ p3 → ((¬ p4 = 0 → ci mX7_readOf [.ref 52, .int (r14 ||| 0)] f14 (fun r17 f17 => K r17 f17)) ∧ (p4 = 0 → K (r14 ||| 0) f14)))))))))) ∧ (r6 = 2 → ci mX7_on [.ref 52, .int p1, .int p2] f6 (fun r18 f18 => ci mX7_cellsOf [.ref 52, .int r18] f18 (fun r19 f19 => ((0 ≤ p3 → ci mX7_throughOf [.ref 52, .int r5] f19 (fun r20 f20 => ((¬ p4 = 0 → ci mX7_readOf [.ref 52, .int (r19 ||| r20)] f20 (fun r21 f21 => K r21 f21)) ∧ (p4 = 0 → K (r19 ||| r20) f20)))) ∧ (¬ 0 ≤ p3 → ((¬ p4 = 0 → ci mX7_readOf [.ref 52, .int (r19 ||| 0)] f19 (fun r22 f22 => K r22 f22)) ∧ (p4 = 0 → K (r19 ||| 0) f19))))))))))) ∧ (r4 = 0 → K (-1000001) f4))))))))))))) : ci mX7_damp [.ref 52, .int p1, .int p2, .int p3, .int p4] f K := by
  refine ci_of (by decide) (Nat.le_of_ble_eq_true rfl) (fun X hX => ?_)
  refine z_aload_n (pc := 0) dX7_damp_0 rfl ?_
  refine z_iconst (pc := 1) (v := 0) dX7_damp_1 ic_0 ?_
  refine k_puti (pc := 2) (j := 0) zc7 dX7_damp_2 fl_X7_41 (by decide) rfl rfl rfl (by decide) rfl ?_
  refine z_iload_n (pc := 5) dX7_damp_5 rfl ?_
  refine k_cSi (pc := 6) (av := [.int p1]) dX7_damp_6 lk_X7_197 rfl (by decide) (by decide) rfl h (fun r1 f1 h => ?_)
  refine z_if_eq (pc := 9) (t := 43) dX7_damp_9 (by decide) (fun c_9 => ?_) (fun c_9 => ?_)
  · replace h := h.1 c_9
    refine z_ldc (pc := 43) (v := -1000001) dX7_damp_43 co_X7_61 ?_
    exact k_iret (pc := 45) hX dX7_damp_45 rfl rfl h
  · replace h := h.2 c_9
    refine z_aload_n (pc := 12) dX7_damp_12 rfl ?_
    refine z_iload_n (pc := 13) dX7_damp_13 rfl ?_
    refine k_cVi (pc := 14) (av := [.int p2]) zc7 rfl dX7_damp_14 lk_X7_200 rfl (by decide) (by decide) (by decide) rfl rfl h (fun r2 f2 h => ?_)
    refine z_if_eq (pc := 17) (t := 43) dX7_damp_17 (by decide) (fun c_17 => ?_) (fun c_17 => ?_)
    · replace h := h.1 c_17
      refine z_ldc (pc := 43) (v := -1000001) dX7_damp_43 co_X7_61 ?_
      exact k_iret (pc := 45) hX dX7_damp_45 rfl rfl h
    · replace h := h.2 c_17
      refine z_iload_n (pc := 20) dX7_damp_20 rfl ?_
      refine z_i2l (pc := 21) dX7_damp_21 ?_
      refine z_lconst (pc := 22) (v := 0) dX7_damp_22 rfl ?_
      refine z_ldc2 (pc := 23) (v := 30) dX7_damp_23 co_X7_219 ?_
      refine k_cSi (pc := 26) (av := [.long (Int32.toInt64 p3), .long 0, .long 30]) dX7_damp_26 lk_X7_51 rfl (by decide) (by decide) rfl h (fun r3 f3 h => ?_)
      refine z_if_eq (pc := 29) (t := 43) dX7_damp_29 (by decide) (fun c_29 => ?_) (fun c_29 => ?_)
      · replace h := h.1 c_29
        refine z_ldc (pc := 43) (v := -1000001) dX7_damp_43 co_X7_61 ?_
        exact k_iret (pc := 45) hX dX7_damp_45 rfl rfl h
      · replace h := h.2 c_29
        refine z_iload (pc := 32) dX7_damp_32 rfl ?_
        refine z_i2l (pc := 34) dX7_damp_34 ?_
        refine z_lconst (pc := 35) (v := 0) dX7_damp_35 rfl ?_
        refine z_lconst (pc := 36) (v := 1) dX7_damp_36 rfl ?_
        refine k_cSi (pc := 37) (av := [.long (Int32.toInt64 p4), .long 0, .long 1]) dX7_damp_37 lk_X7_51 rfl (by decide) (by decide) rfl h (fun r4 f4 h => ?_)
        refine z_if_ne (pc := 40) (t := 46) dX7_damp_40 (by decide) (fun c_40 => ?_) (fun c_40 => ?_)
        · replace h := h.1 c_40
          refine z_aload_n (pc := 46) dX7_damp_46 rfl ?_
          refine z_iload_n (pc := 47) dX7_damp_47 rfl ?_
          refine z_iload_n (pc := 48) dX7_damp_48 rfl ?_
          refine k_cVi (pc := 49) (av := [.int p1, .int p2]) zc7 rfl dX7_damp_49 lk_X7_216 rfl (by decide) (by decide) (by decide) rfl rfl h (fun r5 f5 h => ?_)
          refine z_istore (pc := 52) (lv' := [(5, .int r5), (0, .ref 52), (1, .int p1), (2, .int p2), (3, .int p3), (4, .int p4)]) dX7_damp_52 (Nat.le_of_ble_eq_true rfl) rfl ?_
          refine z_aload_n (pc := 54) dX7_damp_54 rfl ?_
          refine z_iload (pc := 55) dX7_damp_55 rfl ?_
          refine k_cVi (pc := 57) (av := [.int r5]) zc7 rfl dX7_damp_57 lk_X7_173 rfl (by decide) (by decide) (by decide) rfl rfl h (fun r6 f6 h => ?_)
          refine z_iconst (pc := 60) (v := 2) dX7_damp_60 ic_2 ?_
          refine z_icmp_ne (pc := 61) (t := 68) dX7_damp_61 (by decide) (fun c_61 => ?_) (fun c_61 => ?_)
          · replace h := h.1 c_61
            refine z_aload_n (pc := 68) dX7_damp_68 rfl ?_
            refine z_iload (pc := 69) dX7_damp_69 rfl ?_
            refine k_cVi (pc := 71) (av := [.int r5]) zc7 rfl dX7_damp_71 lk_X7_173 rfl (by decide) (by decide) (by decide) rfl rfl h (fun r7 f7 h => ?_)
            refine z_iconst (pc := 74) (v := 3) dX7_damp_74 ic_3 ?_
            refine z_icmp_ne (pc := 75) (t := 89) dX7_damp_75 (by decide) (fun c_75 => ?_) (fun c_75 => ?_)
            · replace h := h.1 c_75
              refine z_aload_n (pc := 89) dX7_damp_89 rfl ?_
              refine k_getr (pc := 90) (j := 5) zc7 dX7_damp_90 fl_X7_19 (by decide) rfl (by decide) rfl (k2 := 56) rfl ?_
              refine z_iconst (pc := 93) (v := 0) dX7_damp_93 ic_0 ?_
              refine k_iald (pc := 94) (j := 0) (v := (f7 56 0)) dX7_damp_94 (by decide) rfl (by unfold vp_in; decide) (by decide) rfl ?_
              refine z_istore (pc := 95) (lv' := [(6, .int (f7 56 0)), (5, .int r5), (0, .ref 52), (1, .int p1), (2, .int p2), (3, .int p3), (4, .int p4)]) dX7_damp_95 (Nat.le_of_ble_eq_true rfl) rfl ?_
              refine z_aload_n (pc := 97) dX7_damp_97 rfl ?_
              refine z_aload_n (pc := 98) dX7_damp_98 rfl ?_
              refine z_iload_n (pc := 99) dX7_damp_99 rfl ?_
              refine z_iload_n (pc := 100) dX7_damp_100 rfl ?_
              refine k_cVi (pc := 101) (av := [.int p1, .int p2]) zc7 rfl dX7_damp_101 lk_X7_170 rfl (by decide) (by decide) (by decide) rfl rfl h (fun r8 f8 h => ?_)
              refine k_cVi (pc := 104) (av := [.int r8]) zc7 rfl dX7_damp_104 lk_X7_176 rfl (by decide) (by decide) (by decide) rfl rfl h (fun r9 f9 h => ?_)
              refine z_iload_n (pc := 107) dX7_damp_107 rfl ?_
              refine z_iload (pc := 108) dX7_damp_108 rfl ?_
              refine z_icmp_ge (pc := 110) (t := 117) dX7_damp_110 (by decide) (fun c_110 => ?_) (fun c_110 => ?_)
              · replace h := h.1 c_110
                refine z_aload_n (pc := 117) dX7_damp_117 rfl ?_
                refine z_iload (pc := 118) dX7_damp_118 rfl ?_
                refine k_cVi (pc := 120) (av := [.int r5]) zc7 rfl dX7_damp_120 lk_X7_191 rfl (by decide) (by decide) (by decide) rfl rfl h (fun r10 f10 h => ?_)
                refine z_ior (pc := 123) dX7_damp_123 ?_
                refine z_istore (pc := 124) (lv' := [(7, .int (r9 ||| r10)), (6, .int (f7 56 0)), (5, .int r5), (0, .ref 52), (1, .int p1), (2, .int p2), (3, .int p3), (4, .int p4)]) dX7_damp_124 (Nat.le_of_ble_eq_true rfl) rfl ?_
                refine z_iload (pc := 126) dX7_damp_126 rfl ?_
                refine z_if_ne (pc := 128) (t := 136) dX7_damp_128 (by decide) (fun c_128 => ?_) (fun c_128 => ?_)
                · replace h := h.1 c_128
                  refine z_aload_n (pc := 136) dX7_damp_136 rfl ?_
                  refine z_iload (pc := 137) dX7_damp_137 rfl ?_
                  refine k_cVi (pc := 139) (av := [.int (r9 ||| r10)]) zc7 rfl dX7_damp_139 lk_X7_194 rfl (by decide) (by decide) (by decide) rfl rfl h (fun r11 f11 h => ?_)
                  exact k_iret (pc := 142) hX dX7_damp_142 rfl rfl h
                · replace h := h.2 c_128
                  refine z_iload (pc := 131) dX7_damp_131 rfl ?_
                  refine z_goto (pc := 133) (t := 142) dX7_damp_133 (by decide) ?_
                  exact k_iret (pc := 142) hX dX7_damp_142 rfl rfl h
              · replace h := h.2 c_110
                refine z_iconst (pc := 113) (v := 0) dX7_damp_113 ic_0 ?_
                refine z_goto (pc := 114) (t := 123) dX7_damp_114 (by decide) ?_
                refine z_ior (pc := 123) dX7_damp_123 ?_
                refine z_istore (pc := 124) (lv' := [(7, .int (r9 ||| 0)), (6, .int (f7 56 0)), (5, .int r5), (0, .ref 52), (1, .int p1), (2, .int p2), (3, .int p3), (4, .int p4)]) dX7_damp_124 (Nat.le_of_ble_eq_true rfl) rfl ?_
                refine z_iload (pc := 126) dX7_damp_126 rfl ?_
                refine z_if_ne (pc := 128) (t := 136) dX7_damp_128 (by decide) (fun c_128 => ?_) (fun c_128 => ?_)
                · replace h := h.1 c_128
                  refine z_aload_n (pc := 136) dX7_damp_136 rfl ?_
                  refine z_iload (pc := 137) dX7_damp_137 rfl ?_
                  refine k_cVi (pc := 139) (av := [.int (r9 ||| 0)]) zc7 rfl dX7_damp_139 lk_X7_194 rfl (by decide) (by decide) (by decide) rfl rfl h (fun r12 f12 h => ?_)
                  exact k_iret (pc := 142) hX dX7_damp_142 rfl rfl h
                · replace h := h.2 c_128
                  refine z_iload (pc := 131) dX7_damp_131 rfl ?_
                  refine z_goto (pc := 133) (t := 142) dX7_damp_133 (by decide) ?_
                  exact k_iret (pc := 142) hX dX7_damp_142 rfl rfl h
            · replace h := h.2 c_75
              refine z_iconst (pc := 78) (v := 2) dX7_damp_78 ic_2 ?_
              refine z_aload_n (pc := 79) dX7_damp_79 rfl ?_
              refine k_getr (pc := 80) (j := 5) zc7 dX7_damp_80 fl_X7_19 (by decide) rfl (by decide) rfl (k2 := 56) rfl ?_
              refine z_iconst (pc := 83) (v := 0) dX7_damp_83 ic_0 ?_
              refine k_iald (pc := 84) (j := 0) (v := (f7 56 0)) dX7_damp_84 (by decide) rfl (by unfold vp_in; decide) (by decide) rfl ?_
              refine z_imul (pc := 85) dX7_damp_85 ?_
              refine z_goto (pc := 86) (t := 95) dX7_damp_86 (by decide) ?_
              refine z_istore (pc := 95) (lv' := [(6, .int (2 * (f7 56 0))), (5, .int r5), (0, .ref 52), (1, .int p1), (2, .int p2), (3, .int p3), (4, .int p4)]) dX7_damp_95 (Nat.le_of_ble_eq_true rfl) rfl ?_
              refine z_aload_n (pc := 97) dX7_damp_97 rfl ?_
              refine z_aload_n (pc := 98) dX7_damp_98 rfl ?_
              refine z_iload_n (pc := 99) dX7_damp_99 rfl ?_
              refine z_iload_n (pc := 100) dX7_damp_100 rfl ?_
              refine k_cVi (pc := 101) (av := [.int p1, .int p2]) zc7 rfl dX7_damp_101 lk_X7_170 rfl (by decide) (by decide) (by decide) rfl rfl h (fun r13 f13 h => ?_)
              refine k_cVi (pc := 104) (av := [.int r13]) zc7 rfl dX7_damp_104 lk_X7_176 rfl (by decide) (by decide) (by decide) rfl rfl h (fun r14 f14 h => ?_)
              refine z_iload_n (pc := 107) dX7_damp_107 rfl ?_
              refine z_iload (pc := 108) dX7_damp_108 rfl ?_
              refine z_icmp_ge (pc := 110) (t := 117) dX7_damp_110 (by decide) (fun c_110 => ?_) (fun c_110 => ?_)
              · replace h := h.1 c_110
                refine z_aload_n (pc := 117) dX7_damp_117 rfl ?_
                refine z_iload (pc := 118) dX7_damp_118 rfl ?_
                refine k_cVi (pc := 120) (av := [.int r5]) zc7 rfl dX7_damp_120 lk_X7_191 rfl (by decide) (by decide) (by decide) rfl rfl h (fun r15 f15 h => ?_)
                refine z_ior (pc := 123) dX7_damp_123 ?_
                refine z_istore (pc := 124) (lv' := [(7, .int (r14 ||| r15)), (6, .int (2 * (f7 56 0))), (5, .int r5), (0, .ref 52), (1, .int p1), (2, .int p2), (3, .int p3), (4, .int p4)]) dX7_damp_124 (Nat.le_of_ble_eq_true rfl) rfl ?_
                refine z_iload (pc := 126) dX7_damp_126 rfl ?_
                refine z_if_ne (pc := 128) (t := 136) dX7_damp_128 (by decide) (fun c_128 => ?_) (fun c_128 => ?_)
                · replace h := h.1 c_128
                  refine z_aload_n (pc := 136) dX7_damp_136 rfl ?_
                  refine z_iload (pc := 137) dX7_damp_137 rfl ?_
                  refine k_cVi (pc := 139) (av := [.int (r14 ||| r15)]) zc7 rfl dX7_damp_139 lk_X7_194 rfl (by decide) (by decide) (by decide) rfl rfl h (fun r16 f16 h => ?_)
                  exact k_iret (pc := 142) hX dX7_damp_142 rfl rfl h
                · replace h := h.2 c_128
                  refine z_iload (pc := 131) dX7_damp_131 rfl ?_
                  refine z_goto (pc := 133) (t := 142) dX7_damp_133 (by decide) ?_
                  exact k_iret (pc := 142) hX dX7_damp_142 rfl rfl h
              · replace h := h.2 c_110
                refine z_iconst (pc := 113) (v := 0) dX7_damp_113 ic_0 ?_
                refine z_goto (pc := 114) (t := 123) dX7_damp_114 (by decide) ?_
                refine z_ior (pc := 123) dX7_damp_123 ?_
                refine z_istore (pc := 124) (lv' := [(7, .int (r14 ||| 0)), (6, .int (2 * (f7 56 0))), (5, .int r5), (0, .ref 52), (1, .int p1), (2, .int p2), (3, .int p3), (4, .int p4)]) dX7_damp_124 (Nat.le_of_ble_eq_true rfl) rfl ?_
                refine z_iload (pc := 126) dX7_damp_126 rfl ?_
                refine z_if_ne (pc := 128) (t := 136) dX7_damp_128 (by decide) (fun c_128 => ?_) (fun c_128 => ?_)
                · replace h := h.1 c_128
                  refine z_aload_n (pc := 136) dX7_damp_136 rfl ?_
                  refine z_iload (pc := 137) dX7_damp_137 rfl ?_
                  refine k_cVi (pc := 139) (av := [.int (r14 ||| 0)]) zc7 rfl dX7_damp_139 lk_X7_194 rfl (by decide) (by decide) (by decide) rfl rfl h (fun r17 f17 h => ?_)
                  exact k_iret (pc := 142) hX dX7_damp_142 rfl rfl h
                · replace h := h.2 c_128
                  refine z_iload (pc := 131) dX7_damp_131 rfl ?_
                  refine z_goto (pc := 133) (t := 142) dX7_damp_133 (by decide) ?_
                  exact k_iret (pc := 142) hX dX7_damp_142 rfl rfl h
          · replace h := h.2 c_61
            refine z_iconst (pc := 64) (v := 0) dX7_damp_64 ic_0 ?_
            refine z_goto (pc := 65) (t := 95) dX7_damp_65 (by decide) ?_
            refine z_istore (pc := 95) (lv' := [(6, .int 0), (5, .int r5), (0, .ref 52), (1, .int p1), (2, .int p2), (3, .int p3), (4, .int p4)]) dX7_damp_95 (Nat.le_of_ble_eq_true rfl) rfl ?_
            refine z_aload_n (pc := 97) dX7_damp_97 rfl ?_
            refine z_aload_n (pc := 98) dX7_damp_98 rfl ?_
            refine z_iload_n (pc := 99) dX7_damp_99 rfl ?_
            refine z_iload_n (pc := 100) dX7_damp_100 rfl ?_
            refine k_cVi (pc := 101) (av := [.int p1, .int p2]) zc7 rfl dX7_damp_101 lk_X7_170 rfl (by decide) (by decide) (by decide) rfl rfl h (fun r18 f18 h => ?_)
            refine k_cVi (pc := 104) (av := [.int r18]) zc7 rfl dX7_damp_104 lk_X7_176 rfl (by decide) (by decide) (by decide) rfl rfl h (fun r19 f19 h => ?_)
            refine z_iload_n (pc := 107) dX7_damp_107 rfl ?_
            refine z_iload (pc := 108) dX7_damp_108 rfl ?_
            refine z_icmp_ge (pc := 110) (t := 117) dX7_damp_110 (by decide) (fun c_110 => ?_) (fun c_110 => ?_)
            · replace h := h.1 c_110
              refine z_aload_n (pc := 117) dX7_damp_117 rfl ?_
              refine z_iload (pc := 118) dX7_damp_118 rfl ?_
              refine k_cVi (pc := 120) (av := [.int r5]) zc7 rfl dX7_damp_120 lk_X7_191 rfl (by decide) (by decide) (by decide) rfl rfl h (fun r20 f20 h => ?_)
              refine z_ior (pc := 123) dX7_damp_123 ?_
              refine z_istore (pc := 124) (lv' := [(7, .int (r19 ||| r20)), (6, .int 0), (5, .int r5), (0, .ref 52), (1, .int p1), (2, .int p2), (3, .int p3), (4, .int p4)]) dX7_damp_124 (Nat.le_of_ble_eq_true rfl) rfl ?_
              refine z_iload (pc := 126) dX7_damp_126 rfl ?_
              refine z_if_ne (pc := 128) (t := 136) dX7_damp_128 (by decide) (fun c_128 => ?_) (fun c_128 => ?_)
              · replace h := h.1 c_128
                refine z_aload_n (pc := 136) dX7_damp_136 rfl ?_
                refine z_iload (pc := 137) dX7_damp_137 rfl ?_
                refine k_cVi (pc := 139) (av := [.int (r19 ||| r20)]) zc7 rfl dX7_damp_139 lk_X7_194 rfl (by decide) (by decide) (by decide) rfl rfl h (fun r21 f21 h => ?_)
                exact k_iret (pc := 142) hX dX7_damp_142 rfl rfl h
              · replace h := h.2 c_128
                refine z_iload (pc := 131) dX7_damp_131 rfl ?_
                refine z_goto (pc := 133) (t := 142) dX7_damp_133 (by decide) ?_
                exact k_iret (pc := 142) hX dX7_damp_142 rfl rfl h
            · replace h := h.2 c_110
              refine z_iconst (pc := 113) (v := 0) dX7_damp_113 ic_0 ?_
              refine z_goto (pc := 114) (t := 123) dX7_damp_114 (by decide) ?_
              refine z_ior (pc := 123) dX7_damp_123 ?_
              refine z_istore (pc := 124) (lv' := [(7, .int (r19 ||| 0)), (6, .int 0), (5, .int r5), (0, .ref 52), (1, .int p1), (2, .int p2), (3, .int p3), (4, .int p4)]) dX7_damp_124 (Nat.le_of_ble_eq_true rfl) rfl ?_
              refine z_iload (pc := 126) dX7_damp_126 rfl ?_
              refine z_if_ne (pc := 128) (t := 136) dX7_damp_128 (by decide) (fun c_128 => ?_) (fun c_128 => ?_)
              · replace h := h.1 c_128
                refine z_aload_n (pc := 136) dX7_damp_136 rfl ?_
                refine z_iload (pc := 137) dX7_damp_137 rfl ?_
                refine k_cVi (pc := 139) (av := [.int (r19 ||| 0)]) zc7 rfl dX7_damp_139 lk_X7_194 rfl (by decide) (by decide) (by decide) rfl rfl h (fun r22 f22 h => ?_)
                exact k_iret (pc := 142) hX dX7_damp_142 rfl rfl h
              · replace h := h.2 c_128
                refine z_iload (pc := 131) dX7_damp_131 rfl ?_
                refine z_goto (pc := 133) (t := 142) dX7_damp_133 (by decide) ?_
                exact k_iret (pc := 142) hX dX7_damp_142 rfl rfl h
        · replace h := h.2 c_40
          refine z_ldc (pc := 43) (v := -1000001) dX7_damp_43 co_X7_61 ?_
          exact k_iret (pc := 45) hX dX7_damp_45 rfl rfl h
set_option maxRecDepth 20000 in
theorem w_X7_drop {f : zF} {K : Int32 → zF → Prop} {p1 : Int32} (h : ci mX7_isRow [.int p1] (zup f 52 0 0) (fun r1 f1 => ((¬ r1 = 0 → (vp_in p1 8 ∧ ((0 ≤ (f1 53 (Int32.toNatClampNeg p1)) → (vp_in p1 8 ∧ (vp_in p1 8 ∧ K (f1 54 (Int32.toNatClampNeg p1)) (zup (zup f1 52 1 0) 53 (Int32.toNatClampNeg p1) (-1))))) ∧ (¬ 0 ≤ (f1 53 (Int32.toNatClampNeg p1)) → ci mX7_finding [.ref 52, .int 1] (zup f1 52 1 0) (fun r2 f2 => K r2 f2))))) ∧ (r1 = 0 → K (-1000001) f1)))) : ci mX7_drop [.ref 52, .int p1] f K := by
  refine ci_of (by decide) (Nat.le_of_ble_eq_true rfl) (fun X hX => ?_)
  refine z_aload_n (pc := 0) dX7_drop_0 rfl ?_
  refine z_iconst (pc := 1) (v := 0) dX7_drop_1 ic_0 ?_
  refine k_puti (pc := 2) (j := 0) zc7 dX7_drop_2 fl_X7_41 (by decide) rfl rfl rfl (by decide) rfl ?_
  refine z_iload_n (pc := 5) dX7_drop_5 rfl ?_
  refine k_cSi (pc := 6) (av := [.int p1]) dX7_drop_6 lk_X7_55 rfl (by decide) (by decide) rfl h (fun r1 f1 h => ?_)
  refine z_if_ne (pc := 9) (t := 15) dX7_drop_9 (by decide) (fun c_9 => ?_) (fun c_9 => ?_)
  · replace h := h.1 c_9
    refine z_aload_n (pc := 15) dX7_drop_15 rfl ?_
    refine z_iconst (pc := 16) (v := 0) dX7_drop_16 ic_0 ?_
    refine k_puti (pc := 17) (j := 1) zc7 dX7_drop_17 fl_X7_45 (by decide) rfl rfl rfl (by decide) rfl ?_
    refine z_aload_n (pc := 20) dX7_drop_20 rfl ?_
    refine k_getr (pc := 21) (j := 2) zc7 dX7_drop_21 fl_X7_7 (by decide) rfl (by decide) rfl (k2 := 53) rfl ?_
    refine z_iload_n (pc := 24) dX7_drop_24 rfl ?_
    refine k_iald (pc := 25) (j := (Int32.toNatClampNeg p1)) (v := (f1 53 (Int32.toNatClampNeg p1))) dX7_drop_25 (by decide) rfl h.1 rfl (by simp [zup]) ?_
    replace h := h.2
    refine z_if_ge (pc := 26) (t := 35) dX7_drop_26 (by decide) (fun c_26 => ?_) (fun c_26 => ?_)
    · replace h := h.1 c_26
      refine z_aload_n (pc := 35) dX7_drop_35 rfl ?_
      refine k_getr (pc := 36) (j := 2) zc7 dX7_drop_36 fl_X7_7 (by decide) rfl (by decide) rfl (k2 := 53) rfl ?_
      refine z_iload_n (pc := 39) dX7_drop_39 rfl ?_
      refine z_iconst (pc := 40) (v := -1) dX7_drop_40 ic_m1 ?_
      refine k_iast (pc := 41) (j := (Int32.toNatClampNeg p1)) dX7_drop_41 (by decide) rfl h.1 rfl ?_
      replace h := h.2
      refine z_aload_n (pc := 42) dX7_drop_42 rfl ?_
      refine k_getr (pc := 43) (j := 3) zc7 dX7_drop_43 fl_X7_13 (by decide) rfl (by decide) rfl (k2 := 54) rfl ?_
      refine z_iload_n (pc := 46) dX7_drop_46 rfl ?_
      refine k_iald (pc := 47) (j := (Int32.toNatClampNeg p1)) (v := (f1 54 (Int32.toNatClampNeg p1))) dX7_drop_47 (by decide) rfl h.1 rfl (by simp [zup]) ?_
      replace h := h.2
      exact k_iret (pc := 48) hX dX7_drop_48 rfl rfl h
    · replace h := h.2 c_26
      refine z_aload_n (pc := 29) dX7_drop_29 rfl ?_
      refine z_iconst (pc := 30) (v := 1) dX7_drop_30 ic_1 ?_
      refine k_cVi (pc := 31) (av := [.int 1]) zc7 rfl dX7_drop_31 lk_X7_62 rfl (by decide) (by decide) (by decide) rfl rfl h (fun r2 f2 h => ?_)
      exact k_iret (pc := 34) hX dX7_drop_34 rfl rfl h
  · replace h := h.2 c_9
    refine z_ldc (pc := 12) (v := -1000001) dX7_drop_12 co_X7_61 ?_
    exact k_iret (pc := 14) hX dX7_drop_14 rfl rfl h
set_option maxRecDepth 20000 in
theorem w_X7_fits {f : zF} {K : Int32 → zF → Prop} {p1 : Int32} {p2 : Int32} (h : ∀ X, kR X (zRi K) → ci mX7_isPlace [.ref 52, .int p1] (zup f 52 0 0) (fun r1 f1 => ((r1 = 0 → K (-1000001) f1) ∧ (¬ r1 = 0 → ci mX7_in [.long (Int32.toInt64 p2), .long 0, .long 511] f1 (fun r2 f2 => ((¬ r2 = 0 → Z X mX7_fits 33 [(0, .ref 52), (1, .int p1), (2, .int p2), (3, .int 0), (4, .int 0)] [] (zC f2)) ∧ (r2 = 0 → K (-1000001) f2))))))) : ci mX7_fits [.ref 52, .int p1, .int p2] f K := by
  refine ci_of (by decide) (Nat.le_of_ble_eq_true rfl) (fun X hX => ?_)
  replace h := h X hX
  refine z_aload_n (pc := 0) dX7_fits_0 rfl ?_
  refine z_iconst (pc := 1) (v := 0) dX7_fits_1 ic_0 ?_
  refine k_puti (pc := 2) (j := 0) zc7 dX7_fits_2 fl_X7_41 (by decide) rfl rfl rfl (by decide) rfl ?_
  refine z_aload_n (pc := 5) dX7_fits_5 rfl ?_
  refine z_iload_n (pc := 6) dX7_fits_6 rfl ?_
  refine k_cVi (pc := 7) (av := [.int p1]) zc7 rfl dX7_fits_7 lk_X7_200 rfl (by decide) (by decide) (by decide) rfl rfl h (fun r1 f1 h => ?_)
  refine z_if_eq (pc := 10) (t := 25) dX7_fits_10 (by decide) (fun c_10 => ?_) (fun c_10 => ?_)
  · replace h := h.1 c_10
    refine z_ldc (pc := 25) (v := -1000001) dX7_fits_25 co_X7_61 ?_
    exact k_iret (pc := 27) hX dX7_fits_27 rfl rfl h
  · replace h := h.2 c_10
    refine z_iload_n (pc := 13) dX7_fits_13 rfl ?_
    refine z_i2l (pc := 14) dX7_fits_14 ?_
    refine z_lconst (pc := 15) (v := 0) dX7_fits_15 rfl ?_
    refine z_ldc2 (pc := 16) (v := 511) dX7_fits_16 co_X7_221 ?_
    refine k_cSi (pc := 19) (av := [.long (Int32.toInt64 p2), .long 0, .long 511]) dX7_fits_19 lk_X7_51 rfl (by decide) (by decide) rfl h (fun r2 f2 h => ?_)
    refine z_if_ne (pc := 22) (t := 28) dX7_fits_22 (by decide) (fun c_22 => ?_) (fun c_22 => ?_)
    · replace h := h.1 c_22
      refine z_iconst (pc := 28) (v := 0) dX7_fits_28 ic_0 ?_
      refine z_istore_n (pc := 29) (lv' := [(3, .int 0), (0, .ref 52), (1, .int p1), (2, .int p2)]) dX7_fits_29 (Nat.le_of_ble_eq_true rfl) rfl ?_
      refine z_iconst (pc := 30) (v := 0) dX7_fits_30 ic_0 ?_
      refine z_istore (pc := 31) (lv' := [(4, .int 0), (3, .int 0), (0, .ref 52), (1, .int p1), (2, .int p2)]) dX7_fits_31 (Nat.le_of_ble_eq_true rfl) rfl ?_
      exact z_sub [2, 3, 4, 1, 0] rfl h
    · replace h := h.2 c_22
      refine z_ldc (pc := 25) (v := -1000001) dX7_fits_25 co_X7_61 ?_
      exact k_iret (pc := 27) hX dX7_fits_27 rfl rfl h
set_option maxRecDepth 20000 in
theorem l_X7_fits_33 {X : zX} {f : zF} {K : Int32 → zF → Prop}  {x1 x2 x3 x4 : Int32}  (hX : kR X (zRi K)) (h : (((f 56 1) ≤ x4 → K x3 f) ∧ (¬ (f 56 1) ≤ x4 → ci mX7_on [.ref 52, .int 0, .int x1] f (fun r103 f103 => ci mX7_cellsOf [.ref 52, .int r103] f103 (fun r104 f104 => ci mX7_throughOf [.ref 52, .int x4] f104 (fun r105 f105 => (∀ z106 : Int32, z106 = (if (r104 ||| r105) = x2 then (1 <<< (x4 &&& 31)) else 0) → Z X mX7_fits 33 [(0, .ref 52), (1, .int x1), (2, .int x2), (3, .int (x3 ||| z106)), (4, .int (x4 + 1))] [] (zC f105)))))))) : Z X mX7_fits 33 [(0, .ref 52), (1, .int x1), (2, .int x2), (3, .int x3), (4, .int x4)] [] (zC f) := by
  refine z_iload (pc := 33) dX7_fits_33 rfl ?_
  refine z_aload_n (pc := 35) dX7_fits_35 rfl ?_
  refine k_getr (pc := 36) (j := 5) zc7 dX7_fits_36 fl_X7_19 (by decide) rfl (by decide) rfl (k2 := 56) rfl ?_
  refine z_iconst (pc := 39) (v := 1) dX7_fits_39 ic_1 ?_
  refine k_iald (pc := 40) (j := 1) (v := (f 56 1)) dX7_fits_40 (by decide) rfl (by unfold vp_in; decide) (by decide) rfl ?_
  refine z_icmp_ge (pc := 41) (t := 82) dX7_fits_41 (by decide) (fun c_41 => ?_) (fun c_41 => ?_)
  · replace h := h.1 c_41
    refine z_iload_n (pc := 82) dX7_fits_82 rfl ?_
    exact k_iret (pc := 83) hX dX7_fits_83 rfl rfl h
  · replace h := h.2 c_41
    refine z_iload_n (pc := 44) dX7_fits_44 rfl ?_
    refine z_aload_n (pc := 45) dX7_fits_45 rfl ?_
    refine z_aload_n (pc := 46) dX7_fits_46 rfl ?_
    refine z_iconst (pc := 47) (v := 0) dX7_fits_47 ic_0 ?_
    refine z_iload_n (pc := 48) dX7_fits_48 rfl ?_
    refine k_cVi (pc := 49) (av := [.int 0, .int x1]) zc7 rfl dX7_fits_49 lk_X7_170 rfl (by decide) (by decide) (by decide) rfl rfl h (fun r103 f103 h => ?_)
    refine k_cVi (pc := 52) (av := [.int r103]) zc7 rfl dX7_fits_52 lk_X7_176 rfl (by decide) (by decide) (by decide) rfl rfl h (fun r104 f104 h => ?_)
    refine z_aload_n (pc := 55) dX7_fits_55 rfl ?_
    refine z_iload (pc := 56) dX7_fits_56 rfl ?_
    refine k_cVi (pc := 58) (av := [.int x4]) zc7 rfl dX7_fits_58 lk_X7_191 rfl (by decide) (by decide) (by decide) rfl rfl h (fun r105 f105 h => ?_)
    refine z_ior (pc := 61) dX7_fits_61 ?_
    refine z_iload_n (pc := 62) dX7_fits_62 rfl ?_
    suffices hm107 : Z X mX7_fits 74 [(0, .ref 52), (1, .int x1), (2, .int x2), (3, .int x3), (4, .int x4)] [.int (if (r104 ||| r105) = x2 then (1 <<< (x4 &&& 31)) else 0), .int x3] (zC f105) by
      refine z_icmp_ne (pc := 63) (t := 73) dX7_fits_63 (by decide) (fun c_63 => ?_) (fun c_63 => ?_)
      · rw [if_neg c_63] at hm107
        refine z_iconst (pc := 73) (v := 0) dX7_fits_73 ic_0 ?_
        exact hm107
      · rw [if_pos c_63] at hm107
        refine z_iconst (pc := 66) (v := 1) dX7_fits_66 ic_1 ?_
        refine z_iload (pc := 67) dX7_fits_67 rfl ?_
        refine z_ishl (pc := 69) dX7_fits_69 ?_
        refine z_goto (pc := 70) (t := 74) dX7_fits_70 (by decide) ?_
        exact hm107
    refine z_name (fun z106 e_z106 => ?_)
    replace h := h z106 e_z106
    refine z_ior (pc := 74) dX7_fits_74 ?_
    refine z_istore_n (pc := 75) (lv' := [(3, .int (x3 ||| z106)), (0, .ref 52), (1, .int x1), (2, .int x2), (4, .int x4)]) dX7_fits_75 (Nat.le_of_ble_eq_true rfl) rfl ?_
    refine z_iinc (pc := 76) (v := (x4 + 1)) (lv' := [(4, .int (x4 + 1)), (3, .int (x3 ||| z106)), (0, .ref 52), (1, .int x1), (2, .int x2)]) dX7_fits_76 rfl (congrArg (fun z => x4 + z) ic_1) (Nat.le_of_ble_eq_true rfl) rfl ?_
    refine z_goto (pc := 79) (t := 33) dX7_fits_79 (by decide) ?_
    exact z_sub [2, 3, 4, 1, 0] rfl h
set_option maxRecDepth 20000 in
theorem w_X7_hasLetters {f : zF} {K : Int32 → zF → Prop} {p1 : Int32} (h : ∀ X, kR X (zRi K) → Z X mX7_hasLetters 4 [(0, .ref 52), (1, .int p1), (2, .int 1), (3, .int 0)] [] (zC f)) : ci mX7_hasLetters [.ref 52, .int p1] f K := by
  refine ci_of (by decide) (Nat.le_of_ble_eq_true rfl) (fun X hX => ?_)
  replace h := h X hX
  refine z_iconst (pc := 0) (v := 1) dX7_hasLetters_0 ic_1 ?_
  refine z_istore_n (pc := 1) (lv' := [(2, .int 1), (0, .ref 52), (1, .int p1)]) dX7_hasLetters_1 (Nat.le_of_ble_eq_true rfl) rfl ?_
  refine z_iconst (pc := 2) (v := 0) dX7_hasLetters_2 ic_0 ?_
  refine z_istore_n (pc := 3) (lv' := [(3, .int 0), (2, .int 1), (0, .ref 52), (1, .int p1)]) dX7_hasLetters_3 (Nat.le_of_ble_eq_true rfl) rfl ?_
  exact z_sub [2, 3, 1, 0] rfl h
set_option maxRecDepth 20000 in
theorem l_X7_hasLetters_4 {X : zX} {f : zF} {K : Int32 → zF → Prop}  {x1 x2 x3 : Int32}  (hX : kR X (zRi K)) (h : (((f 56 2) ≤ x3 → (narrow .boolean (.int x2) = .int x2 ∧ K x2 f)) ∧ (¬ (f 56 2) ≤ x3 → ((x2 = 0 → Z X mX7_hasLetters 4 [(0, .ref 52), (1, .int x1), (2, .int 0), (3, .int (x3 + 1))] [] (zC f)) ∧ (¬ x2 = 0 → (vp_in ((40 * x1) + x3) 320 ∧ ci mX7_isOne [.ref 52, .int (f 55 (Int32.toNatClampNeg ((40 * x1) + x3)))] f (fun r101 f101 => (∀ z102 : Int32, z102 = (if r101 = 0 then 0 else 1) → Z X mX7_hasLetters 4 [(0, .ref 52), (1, .int x1), (2, .int z102), (3, .int (x3 + 1))] [] (zC f101))))))))) : Z X mX7_hasLetters 4 [(0, .ref 52), (1, .int x1), (2, .int x2), (3, .int x3)] [] (zC f) := by
  refine z_iload_n (pc := 4) dX7_hasLetters_4 rfl ?_
  refine z_aload_n (pc := 5) dX7_hasLetters_5 rfl ?_
  refine k_getr (pc := 6) (j := 5) zc7 dX7_hasLetters_6 fl_X7_19 (by decide) rfl (by decide) rfl (k2 := 56) rfl ?_
  refine z_iconst (pc := 9) (v := 2) dX7_hasLetters_9 ic_2 ?_
  refine k_iald (pc := 10) (j := 2) (v := (f 56 2)) dX7_hasLetters_10 (by decide) rfl (by unfold vp_in; decide) (by decide) rfl ?_
  refine z_icmp_ge (pc := 11) (t := 48) dX7_hasLetters_11 (by decide) (fun c_11 => ?_) (fun c_11 => ?_)
  · replace h := h.1 c_11
    refine z_iload_n (pc := 48) dX7_hasLetters_48 rfl ?_
    exact k_iret (pc := 49) hX dX7_hasLetters_49 rfl h.1 h.2
  · replace h := h.2 c_11
    refine z_iload_n (pc := 14) dX7_hasLetters_14 rfl ?_
    refine z_if_eq (pc := 15) (t := 40) dX7_hasLetters_15 (by decide) (fun c_15 => ?_) (fun c_15 => ?_)
    · replace h := h.1 c_15
      refine z_iconst (pc := 40) (v := 0) dX7_hasLetters_40 ic_0 ?_
      refine z_istore_n (pc := 41) (lv' := [(2, .int 0), (0, .ref 52), (1, .int x1), (3, .int x3)]) dX7_hasLetters_41 (Nat.le_of_ble_eq_true rfl) rfl ?_
      refine z_iinc (pc := 42) (v := (x3 + 1)) (lv' := [(3, .int (x3 + 1)), (2, .int 0), (0, .ref 52), (1, .int x1)]) dX7_hasLetters_42 rfl (congrArg (fun z => x3 + z) ic_1) (Nat.le_of_ble_eq_true rfl) rfl ?_
      refine z_goto (pc := 45) (t := 4) dX7_hasLetters_45 (by decide) ?_
      exact z_sub [2, 3, 1, 0] rfl h
    · replace h := h.2 c_15
      refine z_aload_n (pc := 18) dX7_hasLetters_18 rfl ?_
      refine z_aload_n (pc := 19) dX7_hasLetters_19 rfl ?_
      refine k_getr (pc := 20) (j := 4) zc7 dX7_hasLetters_20 fl_X7_16 (by decide) rfl (by decide) rfl (k2 := 55) rfl ?_
      refine z_bipush (pc := 23) (v := 40) dX7_hasLetters_23 bi_40 ?_
      refine z_iload_n (pc := 25) dX7_hasLetters_25 rfl ?_
      refine z_imul (pc := 26) dX7_hasLetters_26 ?_
      refine z_iload_n (pc := 27) dX7_hasLetters_27 rfl ?_
      refine z_iadd (pc := 28) dX7_hasLetters_28 ?_
      refine k_iald (pc := 29) (j := (Int32.toNatClampNeg ((40 * x1) + x3))) (v := (f 55 (Int32.toNatClampNeg ((40 * x1) + x3)))) dX7_hasLetters_29 (by decide) rfl h.1 rfl rfl ?_
      replace h := h.2
      refine k_cVi (pc := 30) (av := [.int (f 55 (Int32.toNatClampNeg ((40 * x1) + x3)))]) zc7 rfl dX7_hasLetters_30 lk_X7_203 rfl (by decide) (by decide) (by decide) rfl rfl h (fun r101 f101 h => ?_)
      suffices hm103 : Z X mX7_hasLetters 41 [(0, .ref 52), (1, .int x1), (2, .int x2), (3, .int x3)] [.int (if r101 = 0 then 0 else 1)] (zC f101) by
        refine z_if_eq (pc := 33) (t := 40) dX7_hasLetters_33 (by decide) (fun c_33 => ?_) (fun c_33 => ?_)
        · rw [if_pos c_33] at hm103
          refine z_iconst (pc := 40) (v := 0) dX7_hasLetters_40 ic_0 ?_
          exact hm103
        · rw [if_neg c_33] at hm103
          refine z_iconst (pc := 36) (v := 1) dX7_hasLetters_36 ic_1 ?_
          refine z_goto (pc := 37) (t := 41) dX7_hasLetters_37 (by decide) ?_
          exact hm103
      refine z_name (fun z102 e_z102 => ?_)
      replace h := h z102 e_z102
      refine z_istore_n (pc := 41) (lv' := [(2, .int z102), (0, .ref 52), (1, .int x1), (3, .int x3)]) dX7_hasLetters_41 (Nat.le_of_ble_eq_true rfl) rfl ?_
      refine z_iinc (pc := 42) (v := (x3 + 1)) (lv' := [(3, .int (x3 + 1)), (2, .int z102), (0, .ref 52), (1, .int x1)]) dX7_hasLetters_42 rfl (congrArg (fun z => x3 + z) ic_1) (Nat.le_of_ble_eq_true rfl) rfl ?_
      refine z_goto (pc := 45) (t := 4) dX7_hasLetters_45 (by decide) ?_
      exact z_sub [2, 3, 1, 0] rfl h
set_option maxRecDepth 20000 in
theorem w_X7_kind {f : zF} {K : Int32 → zF → Prop} {p1 : Int32} (h : ci mX7_isOne [.ref 52, .int p1] (zup f 52 0 0) (fun r1 f1 => ((r1 = 0 → K (-1000001) f1) ∧ (¬ r1 = 0 → ci mX7_kindOf [.ref 52, .int p1] f1 (fun r2 f2 => K r2 f2))))) : ci mX7_kind [.ref 52, .int p1] f K := by
  refine ci_of (by decide) (Nat.le_of_ble_eq_true rfl) (fun X hX => ?_)
  refine z_aload_n (pc := 0) dX7_kind_0 rfl ?_
  refine z_iconst (pc := 1) (v := 0) dX7_kind_1 ic_0 ?_
  refine k_puti (pc := 2) (j := 0) zc7 dX7_kind_2 fl_X7_41 (by decide) rfl rfl rfl (by decide) rfl ?_
  refine z_aload_n (pc := 5) dX7_kind_5 rfl ?_
  refine z_iload_n (pc := 6) dX7_kind_6 rfl ?_
  refine k_cVi (pc := 7) (av := [.int p1]) zc7 rfl dX7_kind_7 lk_X7_203 rfl (by decide) (by decide) (by decide) rfl rfl h (fun r1 f1 h => ?_)
  refine z_if_eq (pc := 10) (t := 21) dX7_kind_10 (by decide) (fun c_10 => ?_) (fun c_10 => ?_)
  · replace h := h.1 c_10
    refine z_ldc (pc := 21) (v := -1000001) dX7_kind_21 co_X7_61 ?_
    exact k_iret (pc := 23) hX dX7_kind_23 rfl rfl h
  · replace h := h.2 c_10
    refine z_aload_n (pc := 13) dX7_kind_13 rfl ?_
    refine z_iload_n (pc := 14) dX7_kind_14 rfl ?_
    refine k_cVi (pc := 15) (av := [.int p1]) zc7 rfl dX7_kind_15 lk_X7_173 rfl (by decide) (by decide) (by decide) rfl rfl h (fun r2 f2 h => ?_)
    refine z_goto (pc := 18) (t := 23) dX7_kind_18 (by decide) ?_
    exact k_iret (pc := 23) hX dX7_kind_23 rfl rfl h
set_option maxRecDepth 20000 in
theorem w_X7_letter {f : zF} {K : Int32 → zF → Prop} {p1 : Int32} {p2 : Int32} (h : ci mX7_isOne [.ref 52, .int p1] (zup f 52 0 0) (fun r1 f1 => ((r1 = 0 → K (-1000001) f1) ∧ (¬ r1 = 0 → ci mX7_in [.long (Int32.toInt64 p2), .long 0, .long 2] f1 (fun r2 f2 => ((¬ r2 = 0 → ((¬ p2 = 0 → ((¬ p2 = 1 → ci mX7_throughOf [.ref 52, .int p1] f2 (fun r3 f3 => K r3 f3)) ∧ (p2 = 1 → ci mX7_cellsOf [.ref 52, .int p1] f2 (fun r4 f4 => ci mX7_turned [.int r4] f4 (fun r5 f5 => K r5 f5))))) ∧ (p2 = 0 → ci mX7_cellsOf [.ref 52, .int p1] f2 (fun r6 f6 => K r6 f6)))) ∧ (r2 = 0 → K (-1000001) f2))))))) : ci mX7_letter [.ref 52, .int p1, .int p2] f K := by
  refine ci_of (by decide) (Nat.le_of_ble_eq_true rfl) (fun X hX => ?_)
  refine z_aload_n (pc := 0) dX7_letter_0 rfl ?_
  refine z_iconst (pc := 1) (v := 0) dX7_letter_1 ic_0 ?_
  refine k_puti (pc := 2) (j := 0) zc7 dX7_letter_2 fl_X7_41 (by decide) rfl rfl rfl (by decide) rfl ?_
  refine z_aload_n (pc := 5) dX7_letter_5 rfl ?_
  refine z_iload_n (pc := 6) dX7_letter_6 rfl ?_
  refine k_cVi (pc := 7) (av := [.int p1]) zc7 rfl dX7_letter_7 lk_X7_203 rfl (by decide) (by decide) (by decide) rfl rfl h (fun r1 f1 h => ?_)
  refine z_if_eq (pc := 10) (t := 25) dX7_letter_10 (by decide) (fun c_10 => ?_) (fun c_10 => ?_)
  · replace h := h.1 c_10
    refine z_ldc (pc := 25) (v := -1000001) dX7_letter_25 co_X7_61 ?_
    exact k_iret (pc := 27) hX dX7_letter_27 rfl rfl h
  · replace h := h.2 c_10
    refine z_iload_n (pc := 13) dX7_letter_13 rfl ?_
    refine z_i2l (pc := 14) dX7_letter_14 ?_
    refine z_lconst (pc := 15) (v := 0) dX7_letter_15 rfl ?_
    refine z_ldc2 (pc := 16) (v := 2) dX7_letter_16 co_X7_59 ?_
    refine k_cSi (pc := 19) (av := [.long (Int32.toInt64 p2), .long 0, .long 2]) dX7_letter_19 lk_X7_51 rfl (by decide) (by decide) rfl h (fun r2 f2 h => ?_)
    refine z_if_ne (pc := 22) (t := 28) dX7_letter_22 (by decide) (fun c_22 => ?_) (fun c_22 => ?_)
    · replace h := h.1 c_22
      refine z_iload_n (pc := 28) dX7_letter_28 rfl ?_
      refine z_if_ne (pc := 29) (t := 40) dX7_letter_29 (by decide) (fun c_29 => ?_) (fun c_29 => ?_)
      · replace h := h.1 c_29
        refine z_iload_n (pc := 40) dX7_letter_40 rfl ?_
        refine z_iconst (pc := 41) (v := 1) dX7_letter_41 ic_1 ?_
        refine z_icmp_ne (pc := 42) (t := 56) dX7_letter_42 (by decide) (fun c_42 => ?_) (fun c_42 => ?_)
        · replace h := h.1 c_42
          refine z_aload_n (pc := 56) dX7_letter_56 rfl ?_
          refine z_iload_n (pc := 57) dX7_letter_57 rfl ?_
          refine k_cVi (pc := 58) (av := [.int p1]) zc7 rfl dX7_letter_58 lk_X7_191 rfl (by decide) (by decide) (by decide) rfl rfl h (fun r3 f3 h => ?_)
          exact k_iret (pc := 61) hX dX7_letter_61 rfl rfl h
        · replace h := h.2 c_42
          refine z_aload_n (pc := 45) dX7_letter_45 rfl ?_
          refine z_iload_n (pc := 46) dX7_letter_46 rfl ?_
          refine k_cVi (pc := 47) (av := [.int p1]) zc7 rfl dX7_letter_47 lk_X7_176 rfl (by decide) (by decide) (by decide) rfl rfl h (fun r4 f4 h => ?_)
          refine k_cSi (pc := 50) (av := [.int r4]) dX7_letter_50 lk_X7_179 rfl (by decide) (by decide) rfl h (fun r5 f5 h => ?_)
          refine z_goto (pc := 53) (t := 61) dX7_letter_53 (by decide) ?_
          exact k_iret (pc := 61) hX dX7_letter_61 rfl rfl h
      · replace h := h.2 c_29
        refine z_aload_n (pc := 32) dX7_letter_32 rfl ?_
        refine z_iload_n (pc := 33) dX7_letter_33 rfl ?_
        refine k_cVi (pc := 34) (av := [.int p1]) zc7 rfl dX7_letter_34 lk_X7_176 rfl (by decide) (by decide) (by decide) rfl rfl h (fun r6 f6 h => ?_)
        refine z_goto (pc := 37) (t := 61) dX7_letter_37 (by decide) ?_
        exact k_iret (pc := 61) hX dX7_letter_61 rfl rfl h
    · replace h := h.2 c_22
      refine z_ldc (pc := 25) (v := -1000001) dX7_letter_25 co_X7_61 ?_
      exact k_iret (pc := 27) hX dX7_letter_27 rfl rfl h
set_option maxRecDepth 20000 in
theorem w_X7_light {f : zF} {K : Int32 → zF → Prop} {p1 : Int32} {p2 : Int32} {p3 : Int32} (h : ci mX7_isSide [.int p1] (zup f 52 0 0) (fun r1 f1 => ((r1 = 0 → K (-1000001) f1) ∧ (¬ r1 = 0 → ci mX7_isPlace [.ref 52, .int p2] f1 (fun r2 f2 => ((r2 = 0 → K (-1000001) f2) ∧ (¬ r2 = 0 → ci mX7_in [.long (Int32.toInt64 p3), .long 0, .long 3] f2 (fun r3 f3 => ((¬ r3 = 0 → ci mX7_on [.ref 52, .int p1, .int p2] f3 (fun r4 f4 => ci mX7_cellsOf [.ref 52, .int r4] f4 (fun r5 f5 => ci mX7_behindOf [.ref 52, .int p1, .int p2] f5 (fun r6 f6 => ci mX7_throughOf [.ref 52, .int r6] f6 (fun r7 f7 => ci mX7_readOf [.ref 52, .int (r5 ||| r7)] f7 (fun r8 f8 => ((¬ p3 = 0 → ((¬ p3 = 1 → ((¬ p3 = 2 → (((f8 52 20) ≤ 1 → K 0 f8) ∧ (¬ (f8 52 20) ≤ 1 → K 1 f8))) ∧ (p3 = 2 → K (f8 52 19) f8))) ∧ (p3 = 1 → K r8 f8))) ∧ (p3 = 0 → K (r5 ||| r7) f8)))))))) ∧ (r3 = 0 → K (-1000001) f3)))))))))) : ci mX7_light [.ref 52, .int p1, .int p2, .int p3] f K := by
  refine ci_of (by decide) (Nat.le_of_ble_eq_true rfl) (fun X hX => ?_)
  refine z_aload_n (pc := 0) dX7_light_0 rfl ?_
  refine z_iconst (pc := 1) (v := 0) dX7_light_1 ic_0 ?_
  refine k_puti (pc := 2) (j := 0) zc7 dX7_light_2 fl_X7_41 (by decide) rfl rfl rfl (by decide) rfl ?_
  refine z_iload_n (pc := 5) dX7_light_5 rfl ?_
  refine k_cSi (pc := 6) (av := [.int p1]) dX7_light_6 lk_X7_197 rfl (by decide) (by decide) rfl h (fun r1 f1 h => ?_)
  refine z_if_eq (pc := 9) (t := 32) dX7_light_9 (by decide) (fun c_9 => ?_) (fun c_9 => ?_)
  · replace h := h.1 c_9
    refine z_ldc (pc := 32) (v := -1000001) dX7_light_32 co_X7_61 ?_
    exact k_iret (pc := 34) hX dX7_light_34 rfl rfl h
  · replace h := h.2 c_9
    refine z_aload_n (pc := 12) dX7_light_12 rfl ?_
    refine z_iload_n (pc := 13) dX7_light_13 rfl ?_
    refine k_cVi (pc := 14) (av := [.int p2]) zc7 rfl dX7_light_14 lk_X7_200 rfl (by decide) (by decide) (by decide) rfl rfl h (fun r2 f2 h => ?_)
    refine z_if_eq (pc := 17) (t := 32) dX7_light_17 (by decide) (fun c_17 => ?_) (fun c_17 => ?_)
    · replace h := h.1 c_17
      refine z_ldc (pc := 32) (v := -1000001) dX7_light_32 co_X7_61 ?_
      exact k_iret (pc := 34) hX dX7_light_34 rfl rfl h
    · replace h := h.2 c_17
      refine z_iload_n (pc := 20) dX7_light_20 rfl ?_
      refine z_i2l (pc := 21) dX7_light_21 ?_
      refine z_lconst (pc := 22) (v := 0) dX7_light_22 rfl ?_
      refine z_ldc2 (pc := 23) (v := 3) dX7_light_23 co_X7_214 ?_
      refine k_cSi (pc := 26) (av := [.long (Int32.toInt64 p3), .long 0, .long 3]) dX7_light_26 lk_X7_51 rfl (by decide) (by decide) rfl h (fun r3 f3 h => ?_)
      refine z_if_ne (pc := 29) (t := 35) dX7_light_29 (by decide) (fun c_29 => ?_) (fun c_29 => ?_)
      · replace h := h.1 c_29
        refine z_aload_n (pc := 35) dX7_light_35 rfl ?_
        refine z_aload_n (pc := 36) dX7_light_36 rfl ?_
        refine z_iload_n (pc := 37) dX7_light_37 rfl ?_
        refine z_iload_n (pc := 38) dX7_light_38 rfl ?_
        refine k_cVi (pc := 39) (av := [.int p1, .int p2]) zc7 rfl dX7_light_39 lk_X7_170 rfl (by decide) (by decide) (by decide) rfl rfl h (fun r4 f4 h => ?_)
        refine k_cVi (pc := 42) (av := [.int r4]) zc7 rfl dX7_light_42 lk_X7_176 rfl (by decide) (by decide) (by decide) rfl rfl h (fun r5 f5 h => ?_)
        refine z_aload_n (pc := 45) dX7_light_45 rfl ?_
        refine z_aload_n (pc := 46) dX7_light_46 rfl ?_
        refine z_iload_n (pc := 47) dX7_light_47 rfl ?_
        refine z_iload_n (pc := 48) dX7_light_48 rfl ?_
        refine k_cVi (pc := 49) (av := [.int p1, .int p2]) zc7 rfl dX7_light_49 lk_X7_216 rfl (by decide) (by decide) (by decide) rfl rfl h (fun r6 f6 h => ?_)
        refine k_cVi (pc := 52) (av := [.int r6]) zc7 rfl dX7_light_52 lk_X7_191 rfl (by decide) (by decide) (by decide) rfl rfl h (fun r7 f7 h => ?_)
        refine z_ior (pc := 55) dX7_light_55 ?_
        refine z_istore (pc := 56) (lv' := [(4, .int (r5 ||| r7)), (0, .ref 52), (1, .int p1), (2, .int p2), (3, .int p3)]) dX7_light_56 (Nat.le_of_ble_eq_true rfl) rfl ?_
        refine z_aload_n (pc := 58) dX7_light_58 rfl ?_
        refine z_iload (pc := 59) dX7_light_59 rfl ?_
        refine k_cVi (pc := 61) (av := [.int (r5 ||| r7)]) zc7 rfl dX7_light_61 lk_X7_194 rfl (by decide) (by decide) (by decide) rfl rfl h (fun r8 f8 h => ?_)
        refine z_istore (pc := 64) (lv' := [(5, .int r8), (4, .int (r5 ||| r7)), (0, .ref 52), (1, .int p1), (2, .int p2), (3, .int p3)]) dX7_light_64 (Nat.le_of_ble_eq_true rfl) rfl ?_
        refine z_iload_n (pc := 66) dX7_light_66 rfl ?_
        refine z_if_ne (pc := 67) (t := 75) dX7_light_67 (by decide) (fun c_67 => ?_) (fun c_67 => ?_)
        · replace h := h.1 c_67
          refine z_iload_n (pc := 75) dX7_light_75 rfl ?_
          refine z_iconst (pc := 76) (v := 1) dX7_light_76 ic_1 ?_
          refine z_icmp_ne (pc := 77) (t := 85) dX7_light_77 (by decide) (fun c_77 => ?_) (fun c_77 => ?_)
          · replace h := h.1 c_77
            refine z_iload_n (pc := 85) dX7_light_85 rfl ?_
            refine z_iconst (pc := 86) (v := 2) dX7_light_86 ic_2 ?_
            refine z_icmp_ne (pc := 87) (t := 97) dX7_light_87 (by decide) (fun c_87 => ?_) (fun c_87 => ?_)
            · replace h := h.1 c_87
              refine z_aload_n (pc := 97) dX7_light_97 rfl ?_
              refine k_geti (pc := 98) (j := 20) zc7 dX7_light_98 fl_X7_188 (by decide) rfl (by decide) rfl (v := (f8 52 20)) rfl ?_
              refine z_iconst (pc := 101) (v := 1) dX7_light_101 ic_1 ?_
              refine z_icmp_le (pc := 102) (t := 109) dX7_light_102 (by decide) (fun c_102 => ?_) (fun c_102 => ?_)
              · replace h := h.1 c_102
                refine z_iconst (pc := 109) (v := 0) dX7_light_109 ic_0 ?_
                exact k_iret (pc := 110) hX dX7_light_110 rfl rfl h
              · replace h := h.2 c_102
                refine z_iconst (pc := 105) (v := 1) dX7_light_105 ic_1 ?_
                refine z_goto (pc := 106) (t := 110) dX7_light_106 (by decide) ?_
                exact k_iret (pc := 110) hX dX7_light_110 rfl rfl h
            · replace h := h.2 c_87
              refine z_aload_n (pc := 90) dX7_light_90 rfl ?_
              refine k_geti (pc := 91) (j := 19) zc7 dX7_light_91 fl_X7_182 (by decide) rfl (by decide) rfl (v := (f8 52 19)) rfl ?_
              refine z_goto (pc := 94) (t := 110) dX7_light_94 (by decide) ?_
              exact k_iret (pc := 110) hX dX7_light_110 rfl rfl h
          · replace h := h.2 c_77
            refine z_iload (pc := 80) dX7_light_80 rfl ?_
            refine z_goto (pc := 82) (t := 110) dX7_light_82 (by decide) ?_
            exact k_iret (pc := 110) hX dX7_light_110 rfl rfl h
        · replace h := h.2 c_67
          refine z_iload (pc := 70) dX7_light_70 rfl ?_
          refine z_goto (pc := 72) (t := 110) dX7_light_72 (by decide) ?_
          exact k_iret (pc := 110) hX dX7_light_110 rfl rfl h
      · replace h := h.2 c_29
        refine z_ldc (pc := 32) (v := -1000001) dX7_light_32 co_X7_61 ?_
        exact k_iret (pc := 34) hX dX7_light_34 rfl rfl h
set_option maxRecDepth 20000 in
theorem w_X7_markSize {f : zF} {K : Int32 → zF → Prop} {p1 : Int32} (h : ci mX7_kindOf [.ref 52, .int p1] f (fun r1 f1 => ((¬ r1 = 5 → cv mX7_began [.ref 52, .int 13] f1 (fun f2 => ci mX7_plainSize [.ref 52, .int p1] f2 (fun r3 f3 => ci mX7_kindOf [.ref 52, .int p1] f3 (fun r4 f4 => ((¬ r4 = 5 → K (r3 - 100) f4) ∧ (r4 = 5 → K (2 * (r3 - 100)) f4)))))) ∧ (r1 = 5 → cv mX7_began [.ref 52, .int 14] f1 (fun f5 => cv mX7_began [.ref 52, .int 13] f5 (fun f6 => ci mX7_plainSize [.ref 52, .int p1] f6 (fun r7 f7 => ci mX7_kindOf [.ref 52, .int p1] f7 (fun r8 f8 => ((¬ r8 = 5 → K (r7 - 100) f8) ∧ (r8 = 5 → K (2 * (r7 - 100)) f8)))))))))) : ci mX7_markSize [.ref 52, .int p1] f K := by
  refine ci_of (by decide) (Nat.le_of_ble_eq_true rfl) (fun X hX => ?_)
  refine z_aload_n (pc := 0) dX7_markSize_0 rfl ?_
  refine z_iload_n (pc := 1) dX7_markSize_1 rfl ?_
  refine k_cVi (pc := 2) (av := [.int p1]) zc7 rfl dX7_markSize_2 lk_X7_173 rfl (by decide) (by decide) (by decide) rfl rfl h (fun r1 f1 h => ?_)
  refine z_iconst (pc := 5) (v := 5) dX7_markSize_5 ic_5 ?_
  refine z_icmp_ne (pc := 6) (t := 15) dX7_markSize_6 (by decide) (fun c_6 => ?_) (fun c_6 => ?_)
  · replace h := h.1 c_6
    refine z_aload_n (pc := 15) dX7_markSize_15 rfl ?_
    refine z_bipush (pc := 16) (v := 13) dX7_markSize_16 bi_13 ?_
    refine k_cVv (pc := 18) (av := [.int 13]) zc7 rfl dX7_markSize_18 lk_X7_251 rfl (by decide) (by decide) (by decide) rfl rfl h (fun f2 h => ?_)
    refine z_aload_n (pc := 21) dX7_markSize_21 rfl ?_
    refine z_iload_n (pc := 22) dX7_markSize_22 rfl ?_
    refine k_cVi (pc := 23) (av := [.int p1]) zc7 rfl dX7_markSize_23 lk_X7_254 rfl (by decide) (by decide) (by decide) rfl rfl h (fun r3 f3 h => ?_)
    refine z_bipush (pc := 26) (v := 100) dX7_markSize_26 bi_100 ?_
    refine z_isub (pc := 28) dX7_markSize_28 ?_
    refine z_istore_n (pc := 29) (lv' := [(2, .int (r3 - 100)), (0, .ref 52), (1, .int p1)]) dX7_markSize_29 (Nat.le_of_ble_eq_true rfl) rfl ?_
    refine z_aload_n (pc := 30) dX7_markSize_30 rfl ?_
    refine z_iload_n (pc := 31) dX7_markSize_31 rfl ?_
    refine k_cVi (pc := 32) (av := [.int p1]) zc7 rfl dX7_markSize_32 lk_X7_173 rfl (by decide) (by decide) (by decide) rfl rfl h (fun r4 f4 h => ?_)
    refine z_iconst (pc := 35) (v := 5) dX7_markSize_35 ic_5 ?_
    refine z_icmp_ne (pc := 36) (t := 45) dX7_markSize_36 (by decide) (fun c_36 => ?_) (fun c_36 => ?_)
    · replace h := h.1 c_36
      refine z_iload_n (pc := 45) dX7_markSize_45 rfl ?_
      exact k_iret (pc := 46) hX dX7_markSize_46 rfl rfl h
    · replace h := h.2 c_36
      refine z_iconst (pc := 39) (v := 2) dX7_markSize_39 ic_2 ?_
      refine z_iload_n (pc := 40) dX7_markSize_40 rfl ?_
      refine z_imul (pc := 41) dX7_markSize_41 ?_
      refine z_goto (pc := 42) (t := 46) dX7_markSize_42 (by decide) ?_
      exact k_iret (pc := 46) hX dX7_markSize_46 rfl rfl h
  · replace h := h.2 c_6
    refine z_aload_n (pc := 9) dX7_markSize_9 rfl ?_
    refine z_bipush (pc := 10) (v := 14) dX7_markSize_10 bi_14 ?_
    refine k_cVv (pc := 12) (av := [.int 14]) zc7 rfl dX7_markSize_12 lk_X7_251 rfl (by decide) (by decide) (by decide) rfl rfl h (fun f5 h => ?_)
    refine z_aload_n (pc := 15) dX7_markSize_15 rfl ?_
    refine z_bipush (pc := 16) (v := 13) dX7_markSize_16 bi_13 ?_
    refine k_cVv (pc := 18) (av := [.int 13]) zc7 rfl dX7_markSize_18 lk_X7_251 rfl (by decide) (by decide) (by decide) rfl rfl h (fun f6 h => ?_)
    refine z_aload_n (pc := 21) dX7_markSize_21 rfl ?_
    refine z_iload_n (pc := 22) dX7_markSize_22 rfl ?_
    refine k_cVi (pc := 23) (av := [.int p1]) zc7 rfl dX7_markSize_23 lk_X7_254 rfl (by decide) (by decide) (by decide) rfl rfl h (fun r7 f7 h => ?_)
    refine z_bipush (pc := 26) (v := 100) dX7_markSize_26 bi_100 ?_
    refine z_isub (pc := 28) dX7_markSize_28 ?_
    refine z_istore_n (pc := 29) (lv' := [(2, .int (r7 - 100)), (0, .ref 52), (1, .int p1)]) dX7_markSize_29 (Nat.le_of_ble_eq_true rfl) rfl ?_
    refine z_aload_n (pc := 30) dX7_markSize_30 rfl ?_
    refine z_iload_n (pc := 31) dX7_markSize_31 rfl ?_
    refine k_cVi (pc := 32) (av := [.int p1]) zc7 rfl dX7_markSize_32 lk_X7_173 rfl (by decide) (by decide) (by decide) rfl rfl h (fun r8 f8 h => ?_)
    refine z_iconst (pc := 35) (v := 5) dX7_markSize_35 ic_5 ?_
    refine z_icmp_ne (pc := 36) (t := 45) dX7_markSize_36 (by decide) (fun c_36 => ?_) (fun c_36 => ?_)
    · replace h := h.1 c_36
      refine z_iload_n (pc := 45) dX7_markSize_45 rfl ?_
      exact k_iret (pc := 46) hX dX7_markSize_46 rfl rfl h
    · replace h := h.2 c_36
      refine z_iconst (pc := 39) (v := 2) dX7_markSize_39 ic_2 ?_
      refine z_iload_n (pc := 40) dX7_markSize_40 rfl ?_
      refine z_imul (pc := 41) dX7_markSize_41 ?_
      refine z_goto (pc := 42) (t := 46) dX7_markSize_42 (by decide) ?_
      exact k_iret (pc := 46) hX dX7_markSize_46 rfl rfl h
set_option maxRecDepth 20000 in
theorem w_X7_must {f : zF} {K : zF → Prop} {p1 : Int32} (h : ((¬ p1 = 0 → ((¬ (f 52 17) = 0 → K f) ∧ ((f 52 17) = 0 → cv mX7_next [.ref 52] f (fun f1 => K f1)))) ∧ (p1 = 0 → cv mX7_bad [.ref 52, .int 1] f (fun f2 => ((¬ (f2 52 17) = 0 → K f2) ∧ ((f2 52 17) = 0 → cv mX7_next [.ref 52] f2 (fun f3 => K f3))))))) : cv mX7_must [.ref 52, .int p1] f K := by
  refine cv_of (by decide) (Nat.le_of_ble_eq_true rfl) (fun X hX => ?_)
  refine z_iload_n (pc := 0) dX7_must_0 rfl ?_
  refine z_if_ne (pc := 1) (t := 9) dX7_must_1 (by decide) (fun c_1 => ?_) (fun c_1 => ?_)
  · replace h := h.1 c_1
    refine z_aload_n (pc := 9) dX7_must_9 rfl ?_
    refine k_geti (pc := 10) (j := 17) zc7 dX7_must_10 fl_X7_99 (by decide) rfl (by decide) rfl (v := (f 52 17)) rfl ?_
    refine z_if_ne (pc := 13) (t := 20) dX7_must_13 (by decide) (fun c_13 => ?_) (fun c_13 => ?_)
    · replace h := h.1 c_13
      exact k_vret (pc := 20) hX dX7_must_20 rfl h
    · replace h := h.2 c_13
      refine z_aload_n (pc := 16) dX7_must_16 rfl ?_
      refine k_cVv (pc := 17) (av := []) zc7 rfl dX7_must_17 lk_X7_102 rfl (by decide) (by decide) (by decide) rfl rfl h (fun f1 h => ?_)
      exact k_vret (pc := 20) hX dX7_must_20 rfl h
  · replace h := h.2 c_1
    refine z_aload_n (pc := 4) dX7_must_4 rfl ?_
    refine z_iconst (pc := 5) (v := 1) dX7_must_5 ic_1 ?_
    refine k_cVv (pc := 6) (av := [.int 1]) zc7 rfl dX7_must_6 lk_X7_108 rfl (by decide) (by decide) (by decide) rfl rfl h (fun f2 h => ?_)
    refine z_aload_n (pc := 9) dX7_must_9 rfl ?_
    refine k_geti (pc := 10) (j := 17) zc7 dX7_must_10 fl_X7_99 (by decide) rfl (by decide) rfl (v := (f2 52 17)) rfl ?_
    refine z_if_ne (pc := 13) (t := 20) dX7_must_13 (by decide) (fun c_13 => ?_) (fun c_13 => ?_)
    · replace h := h.1 c_13
      exact k_vret (pc := 20) hX dX7_must_20 rfl h
    · replace h := h.2 c_13
      refine z_aload_n (pc := 16) dX7_must_16 rfl ?_
      refine k_cVv (pc := 17) (av := []) zc7 rfl dX7_must_17 lk_X7_102 rfl (by decide) (by decide) (by decide) rfl rfl h (fun f3 h => ?_)
      exact k_vret (pc := 20) hX dX7_must_20 rfl h
set_option maxRecDepth 20000 in
theorem w_X7_over {f : zF} {K : Int32 → zF → Prop} {p1 : Int32} {p2 : Int32} {p3 : Int32} (h : ci mX7_isOne [.ref 52, .int p1] (zup f 52 0 0) (fun r1 f1 => ((r1 = 0 → K (-1000001) f1) ∧ (¬ r1 = 0 → ci mX7_isOne [.ref 52, .int p2] f1 (fun r2 f2 => ((r2 = 0 → K (-1000001) f2) ∧ (¬ r2 = 0 → ci mX7_in [.long (Int32.toInt64 p3), .long 0, .long 1] f2 (fun r3 f3 => ((¬ r3 = 0 → ci mX7_cellsOf [.ref 52, .int p1] f3 (fun r4 f4 => ci mX7_cellsOf [.ref 52, .int p2] f4 (fun r5 f5 => ((¬ p3 = 0 → ci mX7_readOf [.ref 52, .int (r4 ||| r5)] f5 (fun r6 f6 => K r6 f6)) ∧ (p3 = 0 → K (r4 ||| r5) f5))))) ∧ (r3 = 0 → K (-1000001) f3)))))))))) : ci mX7_over [.ref 52, .int p1, .int p2, .int p3] f K := by
  refine ci_of (by decide) (Nat.le_of_ble_eq_true rfl) (fun X hX => ?_)
  refine z_aload_n (pc := 0) dX7_over_0 rfl ?_
  refine z_iconst (pc := 1) (v := 0) dX7_over_1 ic_0 ?_
  refine k_puti (pc := 2) (j := 0) zc7 dX7_over_2 fl_X7_41 (by decide) rfl rfl rfl (by decide) rfl ?_
  refine z_aload_n (pc := 5) dX7_over_5 rfl ?_
  refine z_iload_n (pc := 6) dX7_over_6 rfl ?_
  refine k_cVi (pc := 7) (av := [.int p1]) zc7 rfl dX7_over_7 lk_X7_203 rfl (by decide) (by decide) (by decide) rfl rfl h (fun r1 f1 h => ?_)
  refine z_if_eq (pc := 10) (t := 31) dX7_over_10 (by decide) (fun c_10 => ?_) (fun c_10 => ?_)
  · replace h := h.1 c_10
    refine z_ldc (pc := 31) (v := -1000001) dX7_over_31 co_X7_61 ?_
    exact k_iret (pc := 33) hX dX7_over_33 rfl rfl h
  · replace h := h.2 c_10
    refine z_aload_n (pc := 13) dX7_over_13 rfl ?_
    refine z_iload_n (pc := 14) dX7_over_14 rfl ?_
    refine k_cVi (pc := 15) (av := [.int p2]) zc7 rfl dX7_over_15 lk_X7_203 rfl (by decide) (by decide) (by decide) rfl rfl h (fun r2 f2 h => ?_)
    refine z_if_eq (pc := 18) (t := 31) dX7_over_18 (by decide) (fun c_18 => ?_) (fun c_18 => ?_)
    · replace h := h.1 c_18
      refine z_ldc (pc := 31) (v := -1000001) dX7_over_31 co_X7_61 ?_
      exact k_iret (pc := 33) hX dX7_over_33 rfl rfl h
    · replace h := h.2 c_18
      refine z_iload_n (pc := 21) dX7_over_21 rfl ?_
      refine z_i2l (pc := 22) dX7_over_22 ?_
      refine z_lconst (pc := 23) (v := 0) dX7_over_23 rfl ?_
      refine z_lconst (pc := 24) (v := 1) dX7_over_24 rfl ?_
      refine k_cSi (pc := 25) (av := [.long (Int32.toInt64 p3), .long 0, .long 1]) dX7_over_25 lk_X7_51 rfl (by decide) (by decide) rfl h (fun r3 f3 h => ?_)
      refine z_if_ne (pc := 28) (t := 34) dX7_over_28 (by decide) (fun c_28 => ?_) (fun c_28 => ?_)
      · replace h := h.1 c_28
        refine z_aload_n (pc := 34) dX7_over_34 rfl ?_
        refine z_iload_n (pc := 35) dX7_over_35 rfl ?_
        refine k_cVi (pc := 36) (av := [.int p1]) zc7 rfl dX7_over_36 lk_X7_176 rfl (by decide) (by decide) (by decide) rfl rfl h (fun r4 f4 h => ?_)
        refine z_aload_n (pc := 39) dX7_over_39 rfl ?_
        refine z_iload_n (pc := 40) dX7_over_40 rfl ?_
        refine k_cVi (pc := 41) (av := [.int p2]) zc7 rfl dX7_over_41 lk_X7_176 rfl (by decide) (by decide) (by decide) rfl rfl h (fun r5 f5 h => ?_)
        refine z_ior (pc := 44) dX7_over_44 ?_
        refine z_istore (pc := 45) (lv' := [(4, .int (r4 ||| r5)), (0, .ref 52), (1, .int p1), (2, .int p2), (3, .int p3)]) dX7_over_45 (Nat.le_of_ble_eq_true rfl) rfl ?_
        refine z_iload_n (pc := 47) dX7_over_47 rfl ?_
        refine z_if_ne (pc := 48) (t := 56) dX7_over_48 (by decide) (fun c_48 => ?_) (fun c_48 => ?_)
        · replace h := h.1 c_48
          refine z_aload_n (pc := 56) dX7_over_56 rfl ?_
          refine z_iload (pc := 57) dX7_over_57 rfl ?_
          refine k_cVi (pc := 59) (av := [.int (r4 ||| r5)]) zc7 rfl dX7_over_59 lk_X7_194 rfl (by decide) (by decide) (by decide) rfl rfl h (fun r6 f6 h => ?_)
          exact k_iret (pc := 62) hX dX7_over_62 rfl rfl h
        · replace h := h.2 c_48
          refine z_iload (pc := 51) dX7_over_51 rfl ?_
          refine z_goto (pc := 53) (t := 62) dX7_over_53 (by decide) ?_
          exact k_iret (pc := 62) hX dX7_over_62 rfl rfl h
      · replace h := h.2 c_28
        refine z_ldc (pc := 31) (v := -1000001) dX7_over_31 co_X7_61 ?_
        exact k_iret (pc := 33) hX dX7_over_33 rfl rfl h
set_option maxRecDepth 20000 in
theorem w_X7_read {f : zF} {K : Int32 → zF → Prop} {p1 : Int32} {p2 : Int32} (h : ci mX7_isThere [.ref 52] (zup f 52 0 0) (fun r1 f1 => ((¬ r1 = 0 → ci mX7_in [.long (Int32.toInt64 p1), .long 0, .long 511] f1 (fun r2 f2 => ((r2 = 0 → K (-1000001) f2) ∧ (¬ r2 = 0 → ci mX7_in [.long (Int32.toInt64 p2), .long 0, .long 2] f2 (fun r3 f3 => ((¬ r3 = 0 → ci mX7_readOf [.ref 52, .int p1] f3 (fun r4 f4 => ((¬ p2 = 0 → ((¬ p2 = 1 → (((f4 52 20) ≤ 1 → K 0 f4) ∧ (¬ (f4 52 20) ≤ 1 → K 1 f4))) ∧ (p2 = 1 → K (f4 52 19) f4))) ∧ (p2 = 0 → K r4 f4)))) ∧ (r3 = 0 → K (-1000001) f3))))))) ∧ (r1 = 0 → K (-1000002) f1)))) : ci mX7_read [.ref 52, .int p1, .int p2] f K := by
  refine ci_of (by decide) (Nat.le_of_ble_eq_true rfl) (fun X hX => ?_)
  refine z_aload_n (pc := 0) dX7_read_0 rfl ?_
  refine z_iconst (pc := 1) (v := 0) dX7_read_1 ic_0 ?_
  refine k_puti (pc := 2) (j := 0) zc7 dX7_read_2 fl_X7_41 (by decide) rfl rfl rfl (by decide) rfl ?_
  refine z_aload_n (pc := 5) dX7_read_5 rfl ?_
  refine k_cVi (pc := 6) (av := []) zc7 rfl dX7_read_6 lk_X7_209 rfl (by decide) (by decide) (by decide) rfl rfl h (fun r1 f1 h => ?_)
  refine z_if_ne (pc := 9) (t := 15) dX7_read_9 (by decide) (fun c_9 => ?_) (fun c_9 => ?_)
  · replace h := h.1 c_9
    refine z_iload_n (pc := 15) dX7_read_15 rfl ?_
    refine z_i2l (pc := 16) dX7_read_16 ?_
    refine z_lconst (pc := 17) (v := 0) dX7_read_17 rfl ?_
    refine z_ldc2 (pc := 18) (v := 511) dX7_read_18 co_X7_221 ?_
    refine k_cSi (pc := 21) (av := [.long (Int32.toInt64 p1), .long 0, .long 511]) dX7_read_21 lk_X7_51 rfl (by decide) (by decide) rfl h (fun r2 f2 h => ?_)
    refine z_if_eq (pc := 24) (t := 39) dX7_read_24 (by decide) (fun c_24 => ?_) (fun c_24 => ?_)
    · replace h := h.1 c_24
      refine z_ldc (pc := 39) (v := -1000001) dX7_read_39 co_X7_61 ?_
      exact k_iret (pc := 41) hX dX7_read_41 rfl rfl h
    · replace h := h.2 c_24
      refine z_iload_n (pc := 27) dX7_read_27 rfl ?_
      refine z_i2l (pc := 28) dX7_read_28 ?_
      refine z_lconst (pc := 29) (v := 0) dX7_read_29 rfl ?_
      refine z_ldc2 (pc := 30) (v := 2) dX7_read_30 co_X7_59 ?_
      refine k_cSi (pc := 33) (av := [.long (Int32.toInt64 p2), .long 0, .long 2]) dX7_read_33 lk_X7_51 rfl (by decide) (by decide) rfl h (fun r3 f3 h => ?_)
      refine z_if_ne (pc := 36) (t := 42) dX7_read_36 (by decide) (fun c_36 => ?_) (fun c_36 => ?_)
      · replace h := h.1 c_36
        refine z_aload_n (pc := 42) dX7_read_42 rfl ?_
        refine z_iload_n (pc := 43) dX7_read_43 rfl ?_
        refine k_cVi (pc := 44) (av := [.int p1]) zc7 rfl dX7_read_44 lk_X7_194 rfl (by decide) (by decide) (by decide) rfl rfl h (fun r4 f4 h => ?_)
        refine z_istore_n (pc := 47) (lv' := [(3, .int r4), (0, .ref 52), (1, .int p1), (2, .int p2)]) dX7_read_47 (Nat.le_of_ble_eq_true rfl) rfl ?_
        refine z_iload_n (pc := 48) dX7_read_48 rfl ?_
        refine z_if_ne (pc := 49) (t := 56) dX7_read_49 (by decide) (fun c_49 => ?_) (fun c_49 => ?_)
        · replace h := h.1 c_49
          refine z_iload_n (pc := 56) dX7_read_56 rfl ?_
          refine z_iconst (pc := 57) (v := 1) dX7_read_57 ic_1 ?_
          refine z_icmp_ne (pc := 58) (t := 68) dX7_read_58 (by decide) (fun c_58 => ?_) (fun c_58 => ?_)
          · replace h := h.1 c_58
            refine z_aload_n (pc := 68) dX7_read_68 rfl ?_
            refine k_geti (pc := 69) (j := 20) zc7 dX7_read_69 fl_X7_188 (by decide) rfl (by decide) rfl (v := (f4 52 20)) rfl ?_
            refine z_iconst (pc := 72) (v := 1) dX7_read_72 ic_1 ?_
            refine z_icmp_le (pc := 73) (t := 80) dX7_read_73 (by decide) (fun c_73 => ?_) (fun c_73 => ?_)
            · replace h := h.1 c_73
              refine z_iconst (pc := 80) (v := 0) dX7_read_80 ic_0 ?_
              exact k_iret (pc := 81) hX dX7_read_81 rfl rfl h
            · replace h := h.2 c_73
              refine z_iconst (pc := 76) (v := 1) dX7_read_76 ic_1 ?_
              refine z_goto (pc := 77) (t := 81) dX7_read_77 (by decide) ?_
              exact k_iret (pc := 81) hX dX7_read_81 rfl rfl h
          · replace h := h.2 c_58
            refine z_aload_n (pc := 61) dX7_read_61 rfl ?_
            refine k_geti (pc := 62) (j := 19) zc7 dX7_read_62 fl_X7_182 (by decide) rfl (by decide) rfl (v := (f4 52 19)) rfl ?_
            refine z_goto (pc := 65) (t := 81) dX7_read_65 (by decide) ?_
            exact k_iret (pc := 81) hX dX7_read_81 rfl rfl h
        · replace h := h.2 c_49
          refine z_iload_n (pc := 52) dX7_read_52 rfl ?_
          refine z_goto (pc := 53) (t := 81) dX7_read_53 (by decide) ?_
          exact k_iret (pc := 81) hX dX7_read_81 rfl rfl h
      · replace h := h.2 c_36
        refine z_ldc (pc := 39) (v := -1000001) dX7_read_39 co_X7_61 ?_
        exact k_iret (pc := 41) hX dX7_read_41 rfl rfl h
  · replace h := h.2 c_9
    refine z_ldc (pc := 12) (v := -1000002) dX7_read_12 co_X7_213 ?_
    exact k_iret (pc := 14) hX dX7_read_14 rfl rfl h
set_option maxRecDepth 20000 in
theorem w_X7_readBy {f : zF} {K : Int32 → zF → Prop} {p1 : Int32} {p2 : Int32} (h : ci mX7_cellsOf [.ref 52, .int p1] f (fun r1 f1 => ci mX7_throughOf [.ref 52, .int p2] f1 (fun r2 f2 => ci mX7_readOf [.ref 52, .int (r1 ||| r2)] f2 (fun r3 f3 => K r3 f3)))) : ci mX7_readBy [.ref 52, .int p1, .int p2] f K := by
  refine ci_of (by decide) (Nat.le_of_ble_eq_true rfl) (fun X hX => ?_)
  refine z_aload_n (pc := 0) dX7_readBy_0 rfl ?_
  refine z_aload_n (pc := 1) dX7_readBy_1 rfl ?_
  refine z_iload_n (pc := 2) dX7_readBy_2 rfl ?_
  refine k_cVi (pc := 3) (av := [.int p1]) zc7 rfl dX7_readBy_3 lk_X7_176 rfl (by decide) (by decide) (by decide) rfl rfl h (fun r1 f1 h => ?_)
  refine z_aload_n (pc := 6) dX7_readBy_6 rfl ?_
  refine z_iload_n (pc := 7) dX7_readBy_7 rfl ?_
  refine k_cVi (pc := 8) (av := [.int p2]) zc7 rfl dX7_readBy_8 lk_X7_191 rfl (by decide) (by decide) (by decide) rfl rfl h (fun r2 f2 h => ?_)
  refine z_ior (pc := 11) dX7_readBy_11 ?_
  refine k_cVi (pc := 12) (av := [.int (r1 ||| r2)]) zc7 rfl dX7_readBy_12 lk_X7_194 rfl (by decide) (by decide) (by decide) rfl rfl h (fun r3 f3 h => ?_)
  exact k_iret (pc := 15) hX dX7_readBy_15 rfl rfl h
