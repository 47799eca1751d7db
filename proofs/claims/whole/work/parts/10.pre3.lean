/-! ===== preconditions, by program ===== -/
set_option maxRecDepth 20000 in
theorem w_X7_row {f : zF} {K : Int32 → zF → Prop} {p1 : Int32} {p2 : Int32} {p3 : Int32} (h : ∀ X, kR X (zRi K) → ci mX7_isRow [.int p1] (zup f 52 0 0) (fun r1 f1 => ((r1 = 0 → K (-1000001) f1) ∧ (¬ r1 = 0 → ci mX7_in [.long (Int32.toInt64 p2), .long 0, .long 2] f1 (fun r2 f2 => ((r2 = 0 → K (-1000001) f2) ∧ (¬ r2 = 0 → ((p3 ≤ 40 → ((0 ≤ p3 → (vp_in p1 8 ∧ (vp_in p1 8 ∧ Z X mX7_row 65 [(0, .ref 52), (1, .int p1), (2, .int p2), (3, .int p3), (4, .int 0)] [] (zC (zup (zup (zup f2 52 1 0) 53 (Int32.toNatClampNeg p1) p2) 54 (Int32.toNatClampNeg p1) p3))))) ∧ (¬ 0 ≤ p3 → ci mX7_finding [.ref 52, .int 4] (zup f2 52 1 0) (fun r3 f3 => K r3 f3)))) ∧ (¬ p3 ≤ 40 → K (-1000001) f2))))))))) : ci mX7_row [.ref 52, .int p1, .int p2, .int p3] f K := by
  refine ci_of (by decide) (Nat.le_of_ble_eq_true rfl) (fun X hX => ?_)
  replace h := h X hX
  refine z_aload_n (pc := 0) dX7_row_0 rfl ?_
  refine z_iconst (pc := 1) (v := 0) dX7_row_1 ic_0 ?_
  refine k_puti (pc := 2) (j := 0) zc7 dX7_row_2 fl_X7_41 (by decide) rfl rfl rfl (by decide) rfl ?_
  refine z_iload_n (pc := 5) dX7_row_5 rfl ?_
  refine k_cSi (pc := 6) (av := [.int p1]) dX7_row_6 lk_X7_55 rfl (by decide) (by decide) rfl h (fun r1 f1 h => ?_)
  refine z_if_eq (pc := 9) (t := 30) dX7_row_9 (by decide) (fun c_9 => ?_) (fun c_9 => ?_)
  · replace h := h.1 c_9
    refine z_ldc (pc := 30) (v := -1000001) dX7_row_30 co_X7_61 ?_
    exact k_iret (pc := 32) hX dX7_row_32 rfl rfl h
  · replace h := h.2 c_9
    refine z_iload_n (pc := 12) dX7_row_12 rfl ?_
    refine z_i2l (pc := 13) dX7_row_13 ?_
    refine z_lconst (pc := 14) (v := 0) dX7_row_14 rfl ?_
    refine z_ldc2 (pc := 15) (v := 2) dX7_row_15 co_X7_59 ?_
    refine k_cSi (pc := 18) (av := [.long (Int32.toInt64 p2), .long 0, .long 2]) dX7_row_18 lk_X7_51 rfl (by decide) (by decide) rfl h (fun r2 f2 h => ?_)
    refine z_if_eq (pc := 21) (t := 30) dX7_row_21 (by decide) (fun c_21 => ?_) (fun c_21 => ?_)
    · replace h := h.1 c_21
      refine z_ldc (pc := 30) (v := -1000001) dX7_row_30 co_X7_61 ?_
      exact k_iret (pc := 32) hX dX7_row_32 rfl rfl h
    · replace h := h.2 c_21
      refine z_iload_n (pc := 24) dX7_row_24 rfl ?_
      refine z_bipush (pc := 25) (v := 40) dX7_row_25 bi_40 ?_
      refine z_icmp_le (pc := 27) (t := 33) dX7_row_27 (by decide) (fun c_27 => ?_) (fun c_27 => ?_)
      · replace h := h.1 c_27
        refine z_aload_n (pc := 33) dX7_row_33 rfl ?_
        refine z_iconst (pc := 34) (v := 0) dX7_row_34 ic_0 ?_
        refine k_puti (pc := 35) (j := 1) zc7 dX7_row_35 fl_X7_45 (by decide) rfl rfl rfl (by decide) rfl ?_
        refine z_iload_n (pc := 38) dX7_row_38 rfl ?_
        refine z_if_ge (pc := 39) (t := 48) dX7_row_39 (by decide) (fun c_39 => ?_) (fun c_39 => ?_)
        · replace h := h.1 c_39
          refine z_aload_n (pc := 48) dX7_row_48 rfl ?_
          refine k_getr (pc := 49) (j := 2) zc7 dX7_row_49 fl_X7_7 (by decide) rfl (by decide) rfl (k2 := 53) rfl ?_
          refine z_iload_n (pc := 52) dX7_row_52 rfl ?_
          refine z_iload_n (pc := 53) dX7_row_53 rfl ?_
          refine k_iast (pc := 54) (j := (Int32.toNatClampNeg p1)) dX7_row_54 (by decide) rfl h.1 rfl ?_
          replace h := h.2
          refine z_aload_n (pc := 55) dX7_row_55 rfl ?_
          refine k_getr (pc := 56) (j := 3) zc7 dX7_row_56 fl_X7_13 (by decide) rfl (by decide) rfl (k2 := 54) rfl ?_
          refine z_iload_n (pc := 59) dX7_row_59 rfl ?_
          refine z_iload_n (pc := 60) dX7_row_60 rfl ?_
          refine k_iast (pc := 61) (j := (Int32.toNatClampNeg p1)) dX7_row_61 (by decide) rfl h.1 rfl ?_
          replace h := h.2
          refine z_iconst (pc := 62) (v := 0) dX7_row_62 ic_0 ?_
          refine z_istore (pc := 63) (lv' := [(4, .int 0), (0, .ref 52), (1, .int p1), (2, .int p2), (3, .int p3)]) dX7_row_63 (Nat.le_of_ble_eq_true rfl) rfl ?_
          exact z_sub [1, 2, 3, 4, 0] rfl h
        · replace h := h.2 c_39
          refine z_aload_n (pc := 42) dX7_row_42 rfl ?_
          refine z_iconst (pc := 43) (v := 4) dX7_row_43 ic_4 ?_
          refine k_cVi (pc := 44) (av := [.int 4]) zc7 rfl dX7_row_44 lk_X7_62 rfl (by decide) (by decide) (by decide) rfl rfl h (fun r3 f3 h => ?_)
          exact k_iret (pc := 47) hX dX7_row_47 rfl rfl h
      · replace h := h.2 c_27
        refine z_ldc (pc := 30) (v := -1000001) dX7_row_30 co_X7_61 ?_
        exact k_iret (pc := 32) hX dX7_row_32 rfl rfl h
set_option maxRecDepth 20000 in
theorem l_X7_row_65 {X : zX} {f : zF} {K : Int32 → zF → Prop}  {x1 x2 x3 x4 : Int32}  (hX : kR X (zRi K)) (h : ((40 ≤ x4 → K x3 f) ∧ (¬ 40 ≤ x4 → (vp_in ((40 * x1) + x4) 320 ∧ Z X mX7_row 65 [(0, .ref 52), (1, .int x1), (2, .int x2), (3, .int x3), (4, .int (x4 + 1))] [] (zC (zup f 55 (Int32.toNatClampNeg ((40 * x1) + x4)) 0)))))) : Z X mX7_row 65 [(0, .ref 52), (1, .int x1), (2, .int x2), (3, .int x3), (4, .int x4)] [] (zC f) := by
  refine z_iload (pc := 65) dX7_row_65 rfl ?_
  refine z_bipush (pc := 67) (v := 40) dX7_row_67 bi_40 ?_
  refine z_icmp_ge (pc := 69) (t := 91) dX7_row_69 (by decide) (fun c_69 => ?_) (fun c_69 => ?_)
  · replace h := h.1 c_69
    refine z_iload_n (pc := 91) dX7_row_91 rfl ?_
    exact k_iret (pc := 92) hX dX7_row_92 rfl rfl h
  · replace h := h.2 c_69
    refine z_aload_n (pc := 72) dX7_row_72 rfl ?_
    refine k_getr (pc := 73) (j := 4) zc7 dX7_row_73 fl_X7_16 (by decide) rfl (by decide) rfl (k2 := 55) rfl ?_
    refine z_bipush (pc := 76) (v := 40) dX7_row_76 bi_40 ?_
    refine z_iload_n (pc := 78) dX7_row_78 rfl ?_
    refine z_imul (pc := 79) dX7_row_79 ?_
    refine z_iload (pc := 80) dX7_row_80 rfl ?_
    refine z_iadd (pc := 82) dX7_row_82 ?_
    refine z_iconst (pc := 83) (v := 0) dX7_row_83 ic_0 ?_
    refine k_iast (pc := 84) (j := (Int32.toNatClampNeg ((40 * x1) + x4))) dX7_row_84 (by decide) rfl h.1 rfl ?_
    replace h := h.2
    refine z_iinc (pc := 85) (v := (x4 + 1)) (lv' := [(4, .int (x4 + 1)), (0, .ref 52), (1, .int x1), (2, .int x2), (3, .int x3)]) dX7_row_85 rfl (congrArg (fun z => x4 + z) ic_1) (Nat.le_of_ble_eq_true rfl) rfl ?_
    refine z_goto (pc := 88) (t := 65) dX7_row_88 (by decide) ?_
    exact z_sub [1, 2, 3, 4, 0] rfl h
set_option maxRecDepth 20000 in
theorem w_X7_set {f : zF} {K : Int32 → zF → Prop} {p1 : Int32} {p2 : Int32} {p3 : Int32} (h : ci mX7_isRow [.int p1] (zup f 52 0 0) (fun r1 f1 => ((¬ r1 = 0 → (vp_in p1 8 ∧ ((0 ≤ (f1 53 (Int32.toNatClampNeg p1)) → (vp_in p1 8 ∧ ci mX7_in [.long (Int32.toInt64 p2), .long 0, .long (Int32.toInt64 ((f1 54 (Int32.toNatClampNeg p1)) - 1))] (zup f1 52 1 0) (fun r2 f2 => ((¬ r2 = 0 → (vp_in p1 8 ∧ ((¬ (f2 53 (Int32.toNatClampNeg p1)) = 0 → (vp_in p1 8 ∧ (∀ z3 : Int32, z3 = (if (f2 53 (Int32.toNatClampNeg p1)) = 1 then ((Int32.toInt16 p3).toInt32) else p3) → (vp_in ((40 * p1) + p2) 320 ∧ (vp_in ((40 * p1) + p2) 320 ∧ K z3 (zup f2 55 (Int32.toNatClampNeg ((40 * p1) + p2)) z3)))))) ∧ ((f2 53 (Int32.toNatClampNeg p1)) = 0 → (vp_in ((40 * p1) + p2) 320 ∧ (vp_in ((40 * p1) + p2) 320 ∧ K ((Int32.toInt8 p3).toInt32) (zup f2 55 (Int32.toNatClampNeg ((40 * p1) + p2)) ((Int32.toInt8 p3).toInt32)))))))) ∧ (r2 = 0 → ci mX7_finding [.ref 52, .int 2] f2 (fun r5 f5 => K r5 f5)))))) ∧ (¬ 0 ≤ (f1 53 (Int32.toNatClampNeg p1)) → ci mX7_finding [.ref 52, .int 1] (zup f1 52 1 0) (fun r6 f6 => K r6 f6))))) ∧ (r1 = 0 → K (-1000001) f1)))) : ci mX7_set [.ref 52, .int p1, .int p2, .int p3] f K := by
  refine ci_of (by decide) (Nat.le_of_ble_eq_true rfl) (fun X hX => ?_)
  refine z_aload_n (pc := 0) dX7_set_0 rfl ?_
  refine z_iconst (pc := 1) (v := 0) dX7_set_1 ic_0 ?_
  refine k_puti (pc := 2) (j := 0) zc7 dX7_set_2 fl_X7_41 (by decide) rfl rfl rfl (by decide) rfl ?_
  refine z_iload_n (pc := 5) dX7_set_5 rfl ?_
  refine k_cSi (pc := 6) (av := [.int p1]) dX7_set_6 lk_X7_55 rfl (by decide) (by decide) rfl h (fun r1 f1 h => ?_)
  refine z_if_ne (pc := 9) (t := 15) dX7_set_9 (by decide) (fun c_9 => ?_) (fun c_9 => ?_)
  · replace h := h.1 c_9
    refine z_aload_n (pc := 15) dX7_set_15 rfl ?_
    refine z_iconst (pc := 16) (v := 0) dX7_set_16 ic_0 ?_
    refine k_puti (pc := 17) (j := 1) zc7 dX7_set_17 fl_X7_45 (by decide) rfl rfl rfl (by decide) rfl ?_
    refine z_aload_n (pc := 20) dX7_set_20 rfl ?_
    refine k_getr (pc := 21) (j := 2) zc7 dX7_set_21 fl_X7_7 (by decide) rfl (by decide) rfl (k2 := 53) rfl ?_
    refine z_iload_n (pc := 24) dX7_set_24 rfl ?_
    refine k_iald (pc := 25) (j := (Int32.toNatClampNeg p1)) (v := (f1 53 (Int32.toNatClampNeg p1))) dX7_set_25 (by decide) rfl h.1 rfl (by simp [zup]) ?_
    replace h := h.2
    refine z_if_ge (pc := 26) (t := 35) dX7_set_26 (by decide) (fun c_26 => ?_) (fun c_26 => ?_)
    · replace h := h.1 c_26
      refine z_iload_n (pc := 35) dX7_set_35 rfl ?_
      refine z_i2l (pc := 36) dX7_set_36 ?_
      refine z_lconst (pc := 37) (v := 0) dX7_set_37 rfl ?_
      refine z_aload_n (pc := 38) dX7_set_38 rfl ?_
      refine k_getr (pc := 39) (j := 3) zc7 dX7_set_39 fl_X7_13 (by decide) rfl (by decide) rfl (k2 := 54) rfl ?_
      refine z_iload_n (pc := 42) dX7_set_42 rfl ?_
      refine k_iald (pc := 43) (j := (Int32.toNatClampNeg p1)) (v := (f1 54 (Int32.toNatClampNeg p1))) dX7_set_43 (by decide) rfl h.1 rfl (by simp [zup]) ?_
      replace h := h.2
      refine z_iconst (pc := 44) (v := 1) dX7_set_44 ic_1 ?_
      refine z_isub (pc := 45) dX7_set_45 ?_
      refine z_i2l (pc := 46) dX7_set_46 ?_
      refine k_cSi (pc := 47) (av := [.long (Int32.toInt64 p2), .long 0, .long (Int32.toInt64 ((f1 54 (Int32.toNatClampNeg p1)) - 1))]) dX7_set_47 lk_X7_51 rfl (by decide) (by decide) rfl h (fun r2 f2 h => ?_)
      refine z_if_ne (pc := 50) (t := 59) dX7_set_50 (by decide) (fun c_50 => ?_) (fun c_50 => ?_)
      · replace h := h.1 c_50
        refine z_aload_n (pc := 59) dX7_set_59 rfl ?_
        refine k_getr (pc := 60) (j := 4) zc7 dX7_set_60 fl_X7_16 (by decide) rfl (by decide) rfl (k2 := 55) rfl ?_
        refine z_bipush (pc := 63) (v := 40) dX7_set_63 bi_40 ?_
        refine z_iload_n (pc := 65) dX7_set_65 rfl ?_
        refine z_imul (pc := 66) dX7_set_66 ?_
        refine z_iload_n (pc := 67) dX7_set_67 rfl ?_
        refine z_iadd (pc := 68) dX7_set_68 ?_
        refine z_aload_n (pc := 69) dX7_set_69 rfl ?_
        refine k_getr (pc := 70) (j := 2) zc7 dX7_set_70 fl_X7_7 (by decide) rfl (by decide) rfl (k2 := 53) rfl ?_
        refine z_iload_n (pc := 73) dX7_set_73 rfl ?_
        refine k_iald (pc := 74) (j := (Int32.toNatClampNeg p1)) (v := (f2 53 (Int32.toNatClampNeg p1))) dX7_set_74 (by decide) rfl h.1 rfl rfl ?_
        replace h := h.2
        refine z_if_ne (pc := 75) (t := 83) dX7_set_75 (by decide) (fun c_75 => ?_) (fun c_75 => ?_)
        · replace h := h.1 c_75
          refine z_aload_n (pc := 83) dX7_set_83 rfl ?_
          refine k_getr (pc := 84) (j := 2) zc7 dX7_set_84 fl_X7_7 (by decide) rfl (by decide) rfl (k2 := 53) rfl ?_
          refine z_iload_n (pc := 87) dX7_set_87 rfl ?_
          refine k_iald (pc := 88) (j := (Int32.toNatClampNeg p1)) (v := (f2 53 (Int32.toNatClampNeg p1))) dX7_set_88 (by decide) rfl h.1 rfl rfl ?_
          replace h := h.2
          refine z_iconst (pc := 89) (v := 1) dX7_set_89 ic_1 ?_
          suffices hm4 : Z X mX7_set 99 [(0, .ref 52), (1, .int p1), (2, .int p2), (3, .int p3)] [.int (if (f2 53 (Int32.toNatClampNeg p1)) = 1 then ((Int32.toInt16 p3).toInt32) else p3), .int ((40 * p1) + p2), .ref 55] (zC f2) by
            refine z_icmp_ne (pc := 90) (t := 98) dX7_set_90 (by decide) (fun c_90 => ?_) (fun c_90 => ?_)
            · rw [if_neg c_90] at hm4
              refine z_iload_n (pc := 98) dX7_set_98 rfl ?_
              exact hm4
            · rw [if_pos c_90] at hm4
              refine z_iload_n (pc := 93) dX7_set_93 rfl ?_
              refine z_i2s (pc := 94) dX7_set_94 ?_
              refine z_goto (pc := 95) (t := 99) dX7_set_95 (by decide) ?_
              exact hm4
          refine z_name (fun z3 e_z3 => ?_)
          replace h := h z3 e_z3
          refine k_iast (pc := 99) (j := (Int32.toNatClampNeg ((40 * p1) + p2))) dX7_set_99 (by decide) rfl h.1 rfl ?_
          replace h := h.2
          refine z_aload_n (pc := 100) dX7_set_100 rfl ?_
          refine k_getr (pc := 101) (j := 4) zc7 dX7_set_101 fl_X7_16 (by decide) rfl (by decide) rfl (k2 := 55) rfl ?_
          refine z_bipush (pc := 104) (v := 40) dX7_set_104 bi_40 ?_
          refine z_iload_n (pc := 106) dX7_set_106 rfl ?_
          refine z_imul (pc := 107) dX7_set_107 ?_
          refine z_iload_n (pc := 108) dX7_set_108 rfl ?_
          refine z_iadd (pc := 109) dX7_set_109 ?_
          refine k_iald (pc := 110) (j := (Int32.toNatClampNeg ((40 * p1) + p2))) (v := z3) dX7_set_110 (by decide) rfl h.1 rfl (by simp [zup]) ?_
          replace h := h.2
          exact k_iret (pc := 111) hX dX7_set_111 rfl rfl h
        · replace h := h.2 c_75
          refine z_iload_n (pc := 78) dX7_set_78 rfl ?_
          refine z_i2b (pc := 79) dX7_set_79 ?_
          refine z_goto (pc := 80) (t := 99) dX7_set_80 (by decide) ?_
          refine k_iast (pc := 99) (j := (Int32.toNatClampNeg ((40 * p1) + p2))) dX7_set_99 (by decide) rfl h.1 rfl ?_
          replace h := h.2
          refine z_aload_n (pc := 100) dX7_set_100 rfl ?_
          refine k_getr (pc := 101) (j := 4) zc7 dX7_set_101 fl_X7_16 (by decide) rfl (by decide) rfl (k2 := 55) rfl ?_
          refine z_bipush (pc := 104) (v := 40) dX7_set_104 bi_40 ?_
          refine z_iload_n (pc := 106) dX7_set_106 rfl ?_
          refine z_imul (pc := 107) dX7_set_107 ?_
          refine z_iload_n (pc := 108) dX7_set_108 rfl ?_
          refine z_iadd (pc := 109) dX7_set_109 ?_
          refine k_iald (pc := 110) (j := (Int32.toNatClampNeg ((40 * p1) + p2))) (v := ((Int32.toInt8 p3).toInt32)) dX7_set_110 (by decide) rfl h.1 rfl (by simp [zup]) ?_
          replace h := h.2
          exact k_iret (pc := 111) hX dX7_set_111 rfl rfl h
      · replace h := h.2 c_50
        refine z_aload_n (pc := 53) dX7_set_53 rfl ?_
        refine z_iconst (pc := 54) (v := 2) dX7_set_54 ic_2 ?_
        refine k_cVi (pc := 55) (av := [.int 2]) zc7 rfl dX7_set_55 lk_X7_62 rfl (by decide) (by decide) (by decide) rfl rfl h (fun r5 f5 h => ?_)
        exact k_iret (pc := 58) hX dX7_set_58 rfl rfl h
    · replace h := h.2 c_26
      refine z_aload_n (pc := 29) dX7_set_29 rfl ?_
      refine z_iconst (pc := 30) (v := 1) dX7_set_30 ic_1 ?_
      refine k_cVi (pc := 31) (av := [.int 1]) zc7 rfl dX7_set_31 lk_X7_62 rfl (by decide) (by decide) (by decide) rfl rfl h (fun r6 f6 h => ?_)
      exact k_iret (pc := 34) hX dX7_set_34 rfl rfl h
  · replace h := h.2 c_9
    refine z_ldc (pc := 12) (v := -1000001) dX7_set_12 co_X7_61 ?_
    exact k_iret (pc := 14) hX dX7_set_14 rfl rfl h
set_option maxRecDepth 20000 in
theorem w_X7_write {f : zF} {K : Int32 → zF → Prop} {p1 : Int32} {p2 : Int32} {p3 : Int32} (h : ci mX7_isSide [.int p1] (zup f 52 0 0) (fun r1 f1 => ((r1 = 0 → K (-1000001) f1) ∧ (¬ r1 = 0 → ci mX7_isPlace [.ref 52, .int p2] f1 (fun r2 f2 => ((r2 = 0 → K (-1000001) f2) ∧ (¬ r2 = 0 → ci mX7_isOne [.ref 52, .int p3] f2 (fun r3 f3 => ((¬ r3 = 0 → cv mX7_keep [.ref 52] f3 (fun f4 => ci mX7_on [.ref 52, .int p1, .int p2] f4 (fun r5 f5 => (vp_in ((19 + (9 * p1)) + p2) 37 ∧ K r5 (zup f5 56 (Int32.toNatClampNeg ((19 + (9 * p1)) + p2)) p3))))) ∧ (r3 = 0 → K (-1000001) f3)))))))))) : ci mX7_write [.ref 52, .int p1, .int p2, .int p3] f K := by
  refine ci_of (by decide) (Nat.le_of_ble_eq_true rfl) (fun X hX => ?_)
  refine z_aload_n (pc := 0) dX7_write_0 rfl ?_
  refine z_iconst (pc := 1) (v := 0) dX7_write_1 ic_0 ?_
  refine k_puti (pc := 2) (j := 0) zc7 dX7_write_2 fl_X7_41 (by decide) rfl rfl rfl (by decide) rfl ?_
  refine z_iload_n (pc := 5) dX7_write_5 rfl ?_
  refine k_cSi (pc := 6) (av := [.int p1]) dX7_write_6 lk_X7_197 rfl (by decide) (by decide) rfl h (fun r1 f1 h => ?_)
  refine z_if_eq (pc := 9) (t := 28) dX7_write_9 (by decide) (fun c_9 => ?_) (fun c_9 => ?_)
  · replace h := h.1 c_9
    refine z_ldc (pc := 28) (v := -1000001) dX7_write_28 co_X7_61 ?_
    exact k_iret (pc := 30) hX dX7_write_30 rfl rfl h
  · replace h := h.2 c_9
    refine z_aload_n (pc := 12) dX7_write_12 rfl ?_
    refine z_iload_n (pc := 13) dX7_write_13 rfl ?_
    refine k_cVi (pc := 14) (av := [.int p2]) zc7 rfl dX7_write_14 lk_X7_200 rfl (by decide) (by decide) (by decide) rfl rfl h (fun r2 f2 h => ?_)
    refine z_if_eq (pc := 17) (t := 28) dX7_write_17 (by decide) (fun c_17 => ?_) (fun c_17 => ?_)
    · replace h := h.1 c_17
      refine z_ldc (pc := 28) (v := -1000001) dX7_write_28 co_X7_61 ?_
      exact k_iret (pc := 30) hX dX7_write_30 rfl rfl h
    · replace h := h.2 c_17
      refine z_aload_n (pc := 20) dX7_write_20 rfl ?_
      refine z_iload_n (pc := 21) dX7_write_21 rfl ?_
      refine k_cVi (pc := 22) (av := [.int p3]) zc7 rfl dX7_write_22 lk_X7_203 rfl (by decide) (by decide) (by decide) rfl rfl h (fun r3 f3 h => ?_)
      refine z_if_ne (pc := 25) (t := 31) dX7_write_25 (by decide) (fun c_25 => ?_) (fun c_25 => ?_)
      · replace h := h.1 c_25
        refine z_aload_n (pc := 31) dX7_write_31 rfl ?_
        refine k_cVv (pc := 32) (av := []) zc7 rfl dX7_write_32 lk_X7_206 rfl (by decide) (by decide) (by decide) rfl rfl h (fun f4 h => ?_)
        refine z_aload_n (pc := 35) dX7_write_35 rfl ?_
        refine z_iload_n (pc := 36) dX7_write_36 rfl ?_
        refine z_iload_n (pc := 37) dX7_write_37 rfl ?_
        refine k_cVi (pc := 38) (av := [.int p1, .int p2]) zc7 rfl dX7_write_38 lk_X7_170 rfl (by decide) (by decide) (by decide) rfl rfl h (fun r5 f5 h => ?_)
        refine z_istore (pc := 41) (lv' := [(4, .int r5), (0, .ref 52), (1, .int p1), (2, .int p2), (3, .int p3)]) dX7_write_41 (Nat.le_of_ble_eq_true rfl) rfl ?_
        refine z_aload_n (pc := 43) dX7_write_43 rfl ?_
        refine k_getr (pc := 44) (j := 5) zc7 dX7_write_44 fl_X7_19 (by decide) rfl (by decide) rfl (k2 := 56) rfl ?_
        refine z_bipush (pc := 47) (v := 19) dX7_write_47 bi_19 ?_
        refine z_bipush (pc := 49) (v := 9) dX7_write_49 bi_9 ?_
        refine z_iload_n (pc := 51) dX7_write_51 rfl ?_
        refine z_imul (pc := 52) dX7_write_52 ?_
        refine z_iadd (pc := 53) dX7_write_53 ?_
        refine z_iload_n (pc := 54) dX7_write_54 rfl ?_
        refine z_iadd (pc := 55) dX7_write_55 ?_
        refine z_iload_n (pc := 56) dX7_write_56 rfl ?_
        refine k_iast (pc := 57) (j := (Int32.toNatClampNeg ((19 + (9 * p1)) + p2))) dX7_write_57 (by decide) rfl h.1 rfl ?_
        replace h := h.2
        refine z_iload (pc := 58) dX7_write_58 rfl ?_
        exact k_iret (pc := 60) hX dX7_write_60 rfl rfl h
      · replace h := h.2 c_25
        refine z_ldc (pc := 28) (v := -1000001) dX7_write_28 co_X7_61 ?_
        exact k_iret (pc := 30) hX dX7_write_30 rfl rfl h
set_option maxRecDepth 20000 in
theorem w_X1_markOfPlain {f : zF} {K : Int32 → zF → Prop} {p2 : Int32} (h : ci mX2_kindOf [.ref 12, .int p2] f (fun r1 f1 => ((¬ r1 = 3 → ((¬ r1 = 2 → cv mX1_begin [.ref 22, .int 21] f1 (fun f2 => ci mX1_markOfAny [.ref 22, .int p2] f2 (fun r3 f3 => ci mX2_cellsOf [.ref 12, .int p2] f3 (fun r4 f4 => ((¬ r1 = 3 → ((¬ r1 = 2 → K (r3 + r4) f4) ∧ (r1 = 2 → K (2 * (r3 + r4)) f4))) ∧ (r1 = 3 → K ((r3 + r4) - 1000) f4)))))) ∧ (r1 = 2 → cv mX1_begin [.ref 22, .int 24] f1 (fun f5 => cv mX1_begin [.ref 22, .int 21] f5 (fun f6 => ci mX1_markOfAny [.ref 22, .int p2] f6 (fun r7 f7 => ci mX2_cellsOf [.ref 12, .int p2] f7 (fun r8 f8 => ((¬ r1 = 3 → ((¬ r1 = 2 → K (r7 + r8) f8) ∧ (r1 = 2 → K (2 * (r7 + r8)) f8))) ∧ (r1 = 3 → K ((r7 + r8) - 1000) f8))))))))) ∧ (r1 = 3 → cv mX1_begin [.ref 22, .int 22] f1 (fun f9 => cv mX1_begin [.ref 22, .int 21] f9 (fun f10 => ci mX1_markOfAny [.ref 22, .int p2] f10 (fun r11 f11 => ci mX2_cellsOf [.ref 12, .int p2] f11 (fun r12 f12 => ((¬ r1 = 3 → ((¬ r1 = 2 → K (r11 + r12) f12) ∧ (r1 = 2 → K (2 * (r11 + r12)) f12))) ∧ (r1 = 3 → K ((r11 + r12) - 1000) f12)))))))))) : ci mX1_markOfPlain [.ref 22, .ref 12, .int p2] f K := by
  refine ci_of (by decide) (Nat.le_of_ble_eq_true rfl) (fun X hX => ?_)
  refine z_aload_n (pc := 0) dX1_markOfPlain_0 rfl ?_
  refine z_iload_n (pc := 1) dX1_markOfPlain_1 rfl ?_
  refine k_cVi (pc := 2) (av := [.int p2]) zc2 rfl dX1_markOfPlain_2 lk_X1_19 rfl (by decide) (by decide) (by decide) rfl rfl h (fun r1 f1 h => ?_)
  refine z_istore_n (pc := 5) (lv' := [(3, .int r1), (0, .ref 22), (1, .ref 12), (2, .int p2)]) dX1_markOfPlain_5 (Nat.le_of_ble_eq_true rfl) rfl ?_
  refine z_iload_n (pc := 6) dX1_markOfPlain_6 rfl ?_
  refine z_iconst (pc := 7) (v := 3) dX1_markOfPlain_7 ic_3 ?_
  refine z_icmp_ne (pc := 8) (t := 20) dX1_markOfPlain_8 (by decide) (fun c_8 => ?_) (fun c_8 => ?_)
  · replace h := h.1 c_8
    refine z_iload_n (pc := 20) dX1_markOfPlain_20 rfl ?_
    refine z_iconst (pc := 21) (v := 2) dX1_markOfPlain_21 ic_2 ?_
    refine z_icmp_ne (pc := 22) (t := 31) dX1_markOfPlain_22 (by decide) (fun c_22 => ?_) (fun c_22 => ?_)
    · replace h := h.1 c_22
      refine z_aload_n (pc := 31) dX1_markOfPlain_31 rfl ?_
      refine z_bipush (pc := 32) (v := 21) dX1_markOfPlain_32 bi_21 ?_
      refine k_cVv (pc := 34) (av := [.int 21]) zc1 rfl dX1_markOfPlain_34 lk_X1_47 rfl (by decide) (by decide) (by decide) rfl rfl h (fun f2 h => ?_)
      refine z_aload_n (pc := 37) dX1_markOfPlain_37 rfl ?_
      refine z_iload_n (pc := 38) dX1_markOfPlain_38 rfl ?_
      refine k_cVi (pc := 39) (av := [.int p2]) zc1 rfl dX1_markOfPlain_39 lk_X1_62 rfl (by decide) (by decide) (by decide) rfl rfl h (fun r3 f3 h => ?_)
      refine z_aload_n (pc := 42) dX1_markOfPlain_42 rfl ?_
      refine z_iload_n (pc := 43) dX1_markOfPlain_43 rfl ?_
      refine k_cVi (pc := 44) (av := [.int p2]) zc2 rfl dX1_markOfPlain_44 lk_X1_51 rfl (by decide) (by decide) (by decide) rfl rfl h (fun r4 f4 h => ?_)
      refine z_iadd (pc := 47) dX1_markOfPlain_47 ?_
      refine z_istore (pc := 48) (lv' := [(4, .int (r3 + r4)), (3, .int r1), (0, .ref 22), (1, .ref 12), (2, .int p2)]) dX1_markOfPlain_48 (Nat.le_of_ble_eq_true rfl) rfl ?_
      refine z_iload_n (pc := 50) dX1_markOfPlain_50 rfl ?_
      refine z_iconst (pc := 51) (v := 3) dX1_markOfPlain_51 ic_3 ?_
      refine z_icmp_ne (pc := 52) (t := 64) dX1_markOfPlain_52 (by decide) (fun c_52 => ?_) (fun c_52 => ?_)
      · replace h := h.1 c_52
        refine z_iload_n (pc := 64) dX1_markOfPlain_64 rfl ?_
        refine z_iconst (pc := 65) (v := 2) dX1_markOfPlain_65 ic_2 ?_
        refine z_icmp_ne (pc := 66) (t := 76) dX1_markOfPlain_66 (by decide) (fun c_66 => ?_) (fun c_66 => ?_)
        · replace h := h.1 c_66
          refine z_iload (pc := 76) dX1_markOfPlain_76 rfl ?_
          exact k_iret (pc := 78) hX dX1_markOfPlain_78 rfl rfl h
        · replace h := h.2 c_66
          refine z_iconst (pc := 69) (v := 2) dX1_markOfPlain_69 ic_2 ?_
          refine z_iload (pc := 70) dX1_markOfPlain_70 rfl ?_
          refine z_imul (pc := 72) dX1_markOfPlain_72 ?_
          refine z_goto (pc := 73) (t := 78) dX1_markOfPlain_73 (by decide) ?_
          exact k_iret (pc := 78) hX dX1_markOfPlain_78 rfl rfl h
      · replace h := h.2 c_52
        refine z_iload (pc := 55) dX1_markOfPlain_55 rfl ?_
        refine z_sipush (pc := 57) (v := 1000) dX1_markOfPlain_57 si_1000 ?_
        refine z_isub (pc := 60) dX1_markOfPlain_60 ?_
        refine z_goto (pc := 61) (t := 78) dX1_markOfPlain_61 (by decide) ?_
        exact k_iret (pc := 78) hX dX1_markOfPlain_78 rfl rfl h
    · replace h := h.2 c_22
      refine z_aload_n (pc := 25) dX1_markOfPlain_25 rfl ?_
      refine z_bipush (pc := 26) (v := 24) dX1_markOfPlain_26 bi_24 ?_
      refine k_cVv (pc := 28) (av := [.int 24]) zc1 rfl dX1_markOfPlain_28 lk_X1_47 rfl (by decide) (by decide) (by decide) rfl rfl h (fun f5 h => ?_)
      refine z_aload_n (pc := 31) dX1_markOfPlain_31 rfl ?_
      refine z_bipush (pc := 32) (v := 21) dX1_markOfPlain_32 bi_21 ?_
      refine k_cVv (pc := 34) (av := [.int 21]) zc1 rfl dX1_markOfPlain_34 lk_X1_47 rfl (by decide) (by decide) (by decide) rfl rfl h (fun f6 h => ?_)
      refine z_aload_n (pc := 37) dX1_markOfPlain_37 rfl ?_
      refine z_iload_n (pc := 38) dX1_markOfPlain_38 rfl ?_
      refine k_cVi (pc := 39) (av := [.int p2]) zc1 rfl dX1_markOfPlain_39 lk_X1_62 rfl (by decide) (by decide) (by decide) rfl rfl h (fun r7 f7 h => ?_)
      refine z_aload_n (pc := 42) dX1_markOfPlain_42 rfl ?_
      refine z_iload_n (pc := 43) dX1_markOfPlain_43 rfl ?_
      refine k_cVi (pc := 44) (av := [.int p2]) zc2 rfl dX1_markOfPlain_44 lk_X1_51 rfl (by decide) (by decide) (by decide) rfl rfl h (fun r8 f8 h => ?_)
      refine z_iadd (pc := 47) dX1_markOfPlain_47 ?_
      refine z_istore (pc := 48) (lv' := [(4, .int (r7 + r8)), (3, .int r1), (0, .ref 22), (1, .ref 12), (2, .int p2)]) dX1_markOfPlain_48 (Nat.le_of_ble_eq_true rfl) rfl ?_
      refine z_iload_n (pc := 50) dX1_markOfPlain_50 rfl ?_
      refine z_iconst (pc := 51) (v := 3) dX1_markOfPlain_51 ic_3 ?_
      refine z_icmp_ne (pc := 52) (t := 64) dX1_markOfPlain_52 (by decide) (fun c_52 => ?_) (fun c_52 => ?_)
      · replace h := h.1 c_52
        refine z_iload_n (pc := 64) dX1_markOfPlain_64 rfl ?_
        refine z_iconst (pc := 65) (v := 2) dX1_markOfPlain_65 ic_2 ?_
        refine z_icmp_ne (pc := 66) (t := 76) dX1_markOfPlain_66 (by decide) (fun c_66 => ?_) (fun c_66 => ?_)
        · replace h := h.1 c_66
          refine z_iload (pc := 76) dX1_markOfPlain_76 rfl ?_
          exact k_iret (pc := 78) hX dX1_markOfPlain_78 rfl rfl h
        · replace h := h.2 c_66
          refine z_iconst (pc := 69) (v := 2) dX1_markOfPlain_69 ic_2 ?_
          refine z_iload (pc := 70) dX1_markOfPlain_70 rfl ?_
          refine z_imul (pc := 72) dX1_markOfPlain_72 ?_
          refine z_goto (pc := 73) (t := 78) dX1_markOfPlain_73 (by decide) ?_
          exact k_iret (pc := 78) hX dX1_markOfPlain_78 rfl rfl h
      · replace h := h.2 c_52
        refine z_iload (pc := 55) dX1_markOfPlain_55 rfl ?_
        refine z_sipush (pc := 57) (v := 1000) dX1_markOfPlain_57 si_1000 ?_
        refine z_isub (pc := 60) dX1_markOfPlain_60 ?_
        refine z_goto (pc := 61) (t := 78) dX1_markOfPlain_61 (by decide) ?_
        exact k_iret (pc := 78) hX dX1_markOfPlain_78 rfl rfl h
  · replace h := h.2 c_8
    refine z_aload_n (pc := 11) dX1_markOfPlain_11 rfl ?_
    refine z_bipush (pc := 12) (v := 22) dX1_markOfPlain_12 bi_22 ?_
    refine k_cVv (pc := 14) (av := [.int 22]) zc1 rfl dX1_markOfPlain_14 lk_X1_47 rfl (by decide) (by decide) (by decide) rfl rfl h (fun f9 h => ?_)
    refine z_goto (pc := 17) (t := 31) dX1_markOfPlain_17 (by decide) ?_
    refine z_aload_n (pc := 31) dX1_markOfPlain_31 rfl ?_
    refine z_bipush (pc := 32) (v := 21) dX1_markOfPlain_32 bi_21 ?_
    refine k_cVv (pc := 34) (av := [.int 21]) zc1 rfl dX1_markOfPlain_34 lk_X1_47 rfl (by decide) (by decide) (by decide) rfl rfl h (fun f10 h => ?_)
    refine z_aload_n (pc := 37) dX1_markOfPlain_37 rfl ?_
    refine z_iload_n (pc := 38) dX1_markOfPlain_38 rfl ?_
    refine k_cVi (pc := 39) (av := [.int p2]) zc1 rfl dX1_markOfPlain_39 lk_X1_62 rfl (by decide) (by decide) (by decide) rfl rfl h (fun r11 f11 h => ?_)
    refine z_aload_n (pc := 42) dX1_markOfPlain_42 rfl ?_
    refine z_iload_n (pc := 43) dX1_markOfPlain_43 rfl ?_
    refine k_cVi (pc := 44) (av := [.int p2]) zc2 rfl dX1_markOfPlain_44 lk_X1_51 rfl (by decide) (by decide) (by decide) rfl rfl h (fun r12 f12 h => ?_)
    refine z_iadd (pc := 47) dX1_markOfPlain_47 ?_
    refine z_istore (pc := 48) (lv' := [(4, .int (r11 + r12)), (3, .int r1), (0, .ref 22), (1, .ref 12), (2, .int p2)]) dX1_markOfPlain_48 (Nat.le_of_ble_eq_true rfl) rfl ?_
    refine z_iload_n (pc := 50) dX1_markOfPlain_50 rfl ?_
    refine z_iconst (pc := 51) (v := 3) dX1_markOfPlain_51 ic_3 ?_
    refine z_icmp_ne (pc := 52) (t := 64) dX1_markOfPlain_52 (by decide) (fun c_52 => ?_) (fun c_52 => ?_)
    · replace h := h.1 c_52
      refine z_iload_n (pc := 64) dX1_markOfPlain_64 rfl ?_
      refine z_iconst (pc := 65) (v := 2) dX1_markOfPlain_65 ic_2 ?_
      refine z_icmp_ne (pc := 66) (t := 76) dX1_markOfPlain_66 (by decide) (fun c_66 => ?_) (fun c_66 => ?_)
      · replace h := h.1 c_66
        refine z_iload (pc := 76) dX1_markOfPlain_76 rfl ?_
        exact k_iret (pc := 78) hX dX1_markOfPlain_78 rfl rfl h
      · replace h := h.2 c_66
        refine z_iconst (pc := 69) (v := 2) dX1_markOfPlain_69 ic_2 ?_
        refine z_iload (pc := 70) dX1_markOfPlain_70 rfl ?_
        refine z_imul (pc := 72) dX1_markOfPlain_72 ?_
        refine z_goto (pc := 73) (t := 78) dX1_markOfPlain_73 (by decide) ?_
        exact k_iret (pc := 78) hX dX1_markOfPlain_78 rfl rfl h
    · replace h := h.2 c_52
      refine z_iload (pc := 55) dX1_markOfPlain_55 rfl ?_
      refine z_sipush (pc := 57) (v := 1000) dX1_markOfPlain_57 si_1000 ?_
      refine z_isub (pc := 60) dX1_markOfPlain_60 ?_
      refine z_goto (pc := 61) (t := 78) dX1_markOfPlain_61 (by decide) ?_
      exact k_iret (pc := 78) hX dX1_markOfPlain_78 rfl rfl h
set_option maxRecDepth 20000 in
theorem w_X1_sizeOfMark {f : zF} {K : Int32 → zF → Prop} {p2 : Int32} (h : ci mX2_kindOf [.ref 12, .int p2] f (fun r1 f1 => (∀ z2 : Int32, z2 = (if r1 = 5 then 1 else 0) → ((z2 = 0 → cv mX1_begin [.ref 22, .int 13] f1 (fun f3 => ci mX1_sizeOfAny [.ref 22, .ref 12, .int p2] f3 (fun r4 f4 => ((z2 = 0 → K (r4 - 100) f4) ∧ (¬ z2 = 0 → K (2 * (r4 - 100)) f4))))) ∧ (¬ z2 = 0 → cv mX1_begin [.ref 22, .int 14] f1 (fun f5 => cv mX1_begin [.ref 22, .int 13] f5 (fun f6 => ci mX1_sizeOfAny [.ref 22, .ref 12, .int p2] f6 (fun r7 f7 => ((z2 = 0 → K (r7 - 100) f7) ∧ (¬ z2 = 0 → K (2 * (r7 - 100)) f7)))))))))) : ci mX1_sizeOfMark [.ref 22, .ref 12, .int p2] f K := by
  refine ci_of (by decide) (Nat.le_of_ble_eq_true rfl) (fun X hX => ?_)
  refine z_aload_n (pc := 0) dX1_sizeOfMark_0 rfl ?_
  refine z_iload_n (pc := 1) dX1_sizeOfMark_1 rfl ?_
  refine k_cVi (pc := 2) (av := [.int p2]) zc2 rfl dX1_sizeOfMark_2 lk_X1_19 rfl (by decide) (by decide) (by decide) rfl rfl h (fun r1 f1 h => ?_)
  refine z_iconst (pc := 5) (v := 5) dX1_sizeOfMark_5 ic_5 ?_
  suffices hm8 : Z X mX1_sizeOfMark 14 [(0, .ref 22), (1, .ref 12), (2, .int p2)] [.int (if r1 = 5 then 1 else 0)] (zC f1) by
    refine z_icmp_ne (pc := 6) (t := 13) dX1_sizeOfMark_6 (by decide) (fun c_6 => ?_) (fun c_6 => ?_)
    · rw [if_neg c_6] at hm8
      refine z_iconst (pc := 13) (v := 0) dX1_sizeOfMark_13 ic_0 ?_
      exact hm8
    · rw [if_pos c_6] at hm8
      refine z_iconst (pc := 9) (v := 1) dX1_sizeOfMark_9 ic_1 ?_
      refine z_goto (pc := 10) (t := 14) dX1_sizeOfMark_10 (by decide) ?_
      exact hm8
  refine z_name (fun z2 e_z2 => ?_)
  replace h := h z2 e_z2
  refine z_istore_n (pc := 14) (lv' := [(3, .int z2), (0, .ref 22), (1, .ref 12), (2, .int p2)]) dX1_sizeOfMark_14 (Nat.le_of_ble_eq_true rfl) rfl ?_
  refine z_iload_n (pc := 15) dX1_sizeOfMark_15 rfl ?_
  refine z_if_eq (pc := 16) (t := 25) dX1_sizeOfMark_16 (by decide) (fun c_16 => ?_) (fun c_16 => ?_)
  · replace h := h.1 c_16
    refine z_aload_n (pc := 25) dX1_sizeOfMark_25 rfl ?_
    refine z_bipush (pc := 26) (v := 13) dX1_sizeOfMark_26 bi_13 ?_
    refine k_cVv (pc := 28) (av := [.int 13]) zc1 rfl dX1_sizeOfMark_28 lk_X1_47 rfl (by decide) (by decide) (by decide) rfl rfl h (fun f3 h => ?_)
    refine z_aload_n (pc := 31) dX1_sizeOfMark_31 rfl ?_
    refine z_aload_n (pc := 32) dX1_sizeOfMark_32 rfl ?_
    refine z_iload_n (pc := 33) dX1_sizeOfMark_33 rfl ?_
    refine k_cVi (pc := 34) (av := [.ref 12, .int p2]) zc1 rfl dX1_sizeOfMark_34 lk_X1_59 rfl (by decide) (by decide) (by decide) rfl rfl h (fun r4 f4 h => ?_)
    refine z_bipush (pc := 37) (v := 100) dX1_sizeOfMark_37 bi_100 ?_
    refine z_isub (pc := 39) dX1_sizeOfMark_39 ?_
    refine z_istore (pc := 40) (lv' := [(4, .int (r4 - 100)), (3, .int z2), (0, .ref 22), (1, .ref 12), (2, .int p2)]) dX1_sizeOfMark_40 (Nat.le_of_ble_eq_true rfl) rfl ?_
    refine z_iload_n (pc := 42) dX1_sizeOfMark_42 rfl ?_
    refine z_if_eq (pc := 43) (t := 53) dX1_sizeOfMark_43 (by decide) (fun c_43 => ?_) (fun c_43 => ?_)
    · replace h := h.1 c_43
      refine z_iload (pc := 53) dX1_sizeOfMark_53 rfl ?_
      exact k_iret (pc := 55) hX dX1_sizeOfMark_55 rfl rfl h
    · replace h := h.2 c_43
      refine z_iconst (pc := 46) (v := 2) dX1_sizeOfMark_46 ic_2 ?_
      refine z_iload (pc := 47) dX1_sizeOfMark_47 rfl ?_
      refine z_imul (pc := 49) dX1_sizeOfMark_49 ?_
      refine z_goto (pc := 50) (t := 55) dX1_sizeOfMark_50 (by decide) ?_
      exact k_iret (pc := 55) hX dX1_sizeOfMark_55 rfl rfl h
  · replace h := h.2 c_16
    refine z_aload_n (pc := 19) dX1_sizeOfMark_19 rfl ?_
    refine z_bipush (pc := 20) (v := 14) dX1_sizeOfMark_20 bi_14 ?_
    refine k_cVv (pc := 22) (av := [.int 14]) zc1 rfl dX1_sizeOfMark_22 lk_X1_47 rfl (by decide) (by decide) (by decide) rfl rfl h (fun f5 h => ?_)
    refine z_aload_n (pc := 25) dX1_sizeOfMark_25 rfl ?_
    refine z_bipush (pc := 26) (v := 13) dX1_sizeOfMark_26 bi_13 ?_
    refine k_cVv (pc := 28) (av := [.int 13]) zc1 rfl dX1_sizeOfMark_28 lk_X1_47 rfl (by decide) (by decide) (by decide) rfl rfl h (fun f6 h => ?_)
    refine z_aload_n (pc := 31) dX1_sizeOfMark_31 rfl ?_
    refine z_aload_n (pc := 32) dX1_sizeOfMark_32 rfl ?_
    refine z_iload_n (pc := 33) dX1_sizeOfMark_33 rfl ?_
    refine k_cVi (pc := 34) (av := [.ref 12, .int p2]) zc1 rfl dX1_sizeOfMark_34 lk_X1_59 rfl (by decide) (by decide) (by decide) rfl rfl h (fun r7 f7 h => ?_)
    refine z_bipush (pc := 37) (v := 100) dX1_sizeOfMark_37 bi_100 ?_
    refine z_isub (pc := 39) dX1_sizeOfMark_39 ?_
    refine z_istore (pc := 40) (lv' := [(4, .int (r7 - 100)), (3, .int z2), (0, .ref 22), (1, .ref 12), (2, .int p2)]) dX1_sizeOfMark_40 (Nat.le_of_ble_eq_true rfl) rfl ?_
    refine z_iload_n (pc := 42) dX1_sizeOfMark_42 rfl ?_
    refine z_if_eq (pc := 43) (t := 53) dX1_sizeOfMark_43 (by decide) (fun c_43 => ?_) (fun c_43 => ?_)
    · replace h := h.1 c_43
      refine z_iload (pc := 53) dX1_sizeOfMark_53 rfl ?_
      exact k_iret (pc := 55) hX dX1_sizeOfMark_55 rfl rfl h
    · replace h := h.2 c_43
      refine z_iconst (pc := 46) (v := 2) dX1_sizeOfMark_46 ic_2 ?_
      refine z_iload (pc := 47) dX1_sizeOfMark_47 rfl ?_
      refine z_imul (pc := 49) dX1_sizeOfMark_49 ?_
      refine z_goto (pc := 50) (t := 55) dX1_sizeOfMark_50 (by decide) ?_
      exact k_iret (pc := 55) hX dX1_sizeOfMark_55 rfl rfl h
set_option maxRecDepth 20000 in
theorem w_X2_leastOff {f : zF} {K : Int32 → zF → Prop} {k : Nat} {p1 : Int32} (hk : isPage k) (h : ci mX2_nearest [.ref k, .int p1] f (fun r1 f1 => ci mX2_offOf [.ref k, .int r1, .int p1] f1 (fun r2 f2 => K r2 f2))) : ci mX2_leastOff [.ref k, .int p1] f K := by
  refine ci_of (by decide) (Nat.le_of_ble_eq_true rfl) (fun X hX => ?_)
  refine z_aload_n (pc := 0) dX2_leastOff_0 rfl ?_
  refine z_aload_n (pc := 1) dX2_leastOff_1 rfl ?_
  refine z_iload_n (pc := 2) dX2_leastOff_2 rfl ?_
  refine k_cVi (pc := 3) (av := [.int p1]) zc2 rfl dX2_leastOff_3 lk_X2_76 rfl (by decide) (by decide) (pg_lt hk) (pg_sh hk) rfl h (fun r1 f1 h => ?_)
  refine z_iload_n (pc := 6) dX2_leastOff_6 rfl ?_
  refine k_cVi (pc := 7) (av := [.int r1, .int p1]) zc2 rfl dX2_leastOff_7 lk_X2_73 rfl (by decide) (by decide) (pg_lt hk) (pg_sh hk) rfl h (fun r2 f2 h => ?_)
  exact k_iret (pc := 10) hX dX2_leastOff_10 rfl rfl h
set_option maxRecDepth 20000 in
theorem w_X2_readOf {f : zF} {K : Int32 → zF → Prop} {k : Nat} {p1 : Int32} {p2 : Int32} (hk : isPage k) (h : ci mX2_shownOf [.ref k, .int p1, .int p2] f (fun r1 f1 => ci mX2_nearest [.ref k, .int r1] f1 (fun r2 f2 => K r2 f2))) : ci mX2_readOf [.ref k, .int p1, .int p2] f K := by
  refine ci_of (by decide) (Nat.le_of_ble_eq_true rfl) (fun X hX => ?_)
  refine z_aload_n (pc := 0) dX2_readOf_0 rfl ?_
  refine z_aload_n (pc := 1) dX2_readOf_1 rfl ?_
  refine z_iload_n (pc := 2) dX2_readOf_2 rfl ?_
  refine z_iload_n (pc := 3) dX2_readOf_3 rfl ?_
  refine k_cVi (pc := 4) (av := [.int p1, .int p2]) zc2 rfl dX2_readOf_4 lk_X2_63 rfl (by decide) (by decide) (pg_lt hk) (pg_sh hk) rfl h (fun r1 f1 h => ?_)
  refine k_cVi (pc := 7) (av := [.int r1]) zc2 rfl dX2_readOf_7 lk_X2_76 rfl (by decide) (by decide) (pg_lt hk) (pg_sh hk) rfl h (fun r2 f2 h => ?_)
  exact k_iret (pc := 10) hX dX2_readOf_10 rfl rfl h
set_option maxRecDepth 20000 in
theorem w_X2_shownByDamp {f : zF} {K : Int32 → zF → Prop} {k : Nat} {p1 : Int32} {p2 : Int32} {p3 : Int32} (hk : isPage k) (h : ci mX2_letterBehind [.ref k, .int p1, .int p2] f (fun r1 f1 => ci mX2_kindOf [.ref k, .int r1] f1 (fun r2 f2 => (∀ z3 : Int32, z3 = (if r2 = 2 then 0 else (if r2 = 3 then (2 * (f2 k 0)) else (f2 k 0))) → ci mX2_letterAt [.ref k, .int p1, .int p2] f2 (fun r4 f4 => ((p3 < z3 → ci mX2_cellsOf [.ref k, .int r4] f4 (fun r5 f5 => K r5 f5)) ∧ (¬ p3 < z3 → ci mX2_shownOf [.ref k, .int r4, .int r1] f4 (fun r6 f6 => K r6 f6)))))))) : ci mX2_shownByDamp [.ref k, .int p1, .int p2, .int p3] f K := by
  refine ci_of (by decide) (Nat.le_of_ble_eq_true rfl) (fun X hX => ?_)
  refine z_aload_n (pc := 0) dX2_shownByDamp_0 rfl ?_
  refine z_iload_n (pc := 1) dX2_shownByDamp_1 rfl ?_
  refine z_iload_n (pc := 2) dX2_shownByDamp_2 rfl ?_
  refine k_cVi (pc := 3) (av := [.int p1, .int p2]) zc2 rfl dX2_shownByDamp_3 lk_X2_60 rfl (by decide) (by decide) (pg_lt hk) (pg_sh hk) rfl h (fun r1 f1 h => ?_)
  refine z_istore (pc := 6) (lv' := [(4, .int r1), (0, .ref k), (1, .int p1), (2, .int p2), (3, .int p3)]) dX2_shownByDamp_6 (Nat.le_of_ble_eq_true rfl) rfl ?_
  refine z_aload_n (pc := 8) dX2_shownByDamp_8 rfl ?_
  refine z_iload (pc := 9) dX2_shownByDamp_9 rfl ?_
  refine k_cVi (pc := 11) (av := [.int r1]) zc2 rfl dX2_shownByDamp_11 lk_X2_66 rfl (by decide) (by decide) (pg_lt hk) (pg_sh hk) rfl h (fun r2 f2 h => ?_)
  refine z_istore (pc := 14) (lv' := [(5, .int r2), (4, .int r1), (0, .ref k), (1, .int p1), (2, .int p2), (3, .int p3)]) dX2_shownByDamp_14 (Nat.le_of_ble_eq_true rfl) rfl ?_
  refine z_iload (pc := 16) dX2_shownByDamp_16 rfl ?_
  refine z_iconst (pc := 18) (v := 2) dX2_shownByDamp_18 ic_2 ?_
  suffices hm7 : Z X mX2_shownByDamp 45 [(5, .int r2), (4, .int r1), (0, .ref k), (1, .int p1), (2, .int p2), (3, .int p3)] [.int (if r2 = 2 then 0 else (if r2 = 3 then (2 * (f2 k 0)) else (f2 k 0)))] (zC f2) by
    refine z_icmp_ne (pc := 19) (t := 26) dX2_shownByDamp_19 (by decide) (fun c_19 => ?_) (fun c_19 => ?_)
    · rw [if_neg c_19] at hm7
      refine z_iload (pc := 26) dX2_shownByDamp_26 rfl ?_
      refine z_iconst (pc := 28) (v := 3) dX2_shownByDamp_28 ic_3 ?_
      refine z_icmp_ne (pc := 29) (t := 41) dX2_shownByDamp_29 (by decide) (fun c_29 => ?_) (fun c_29 => ?_)
      · rw [if_neg c_29] at hm7
        refine z_aload_n (pc := 41) dX2_shownByDamp_41 rfl ?_
        refine k_geti (pc := 42) (j := 0) zc2 dX2_shownByDamp_42 fl_X2_34 (by decide) rfl (pg_lt hk) (pg_sh hk) (v := (f2 k 0)) rfl ?_
        exact hm7
      · rw [if_pos c_29] at hm7
        refine z_iconst (pc := 32) (v := 2) dX2_shownByDamp_32 ic_2 ?_
        refine z_aload_n (pc := 33) dX2_shownByDamp_33 rfl ?_
        refine k_geti (pc := 34) (j := 0) zc2 dX2_shownByDamp_34 fl_X2_34 (by decide) rfl (pg_lt hk) (pg_sh hk) (v := (f2 k 0)) rfl ?_
        refine z_imul (pc := 37) dX2_shownByDamp_37 ?_
        refine z_goto (pc := 38) (t := 45) dX2_shownByDamp_38 (by decide) ?_
        exact hm7
    · rw [if_pos c_19] at hm7
      refine z_iconst (pc := 22) (v := 0) dX2_shownByDamp_22 ic_0 ?_
      refine z_goto (pc := 23) (t := 45) dX2_shownByDamp_23 (by decide) ?_
      exact hm7
  refine z_name (fun z3 e_z3 => ?_)
  replace h := h z3 e_z3
  refine z_istore (pc := 45) (lv' := [(6, .int z3), (5, .int r2), (4, .int r1), (0, .ref k), (1, .int p1), (2, .int p2), (3, .int p3)]) dX2_shownByDamp_45 (Nat.le_of_ble_eq_true rfl) rfl ?_
  refine z_aload_n (pc := 47) dX2_shownByDamp_47 rfl ?_
  refine z_iload_n (pc := 48) dX2_shownByDamp_48 rfl ?_
  refine z_iload_n (pc := 49) dX2_shownByDamp_49 rfl ?_
  refine k_cVi (pc := 50) (av := [.int p1, .int p2]) zc2 rfl dX2_shownByDamp_50 lk_X2_49 rfl (by decide) (by decide) (pg_lt hk) (pg_sh hk) rfl h (fun r4 f4 h => ?_)
  refine z_istore (pc := 53) (lv' := [(7, .int r4), (6, .int z3), (5, .int r2), (4, .int r1), (0, .ref k), (1, .int p1), (2, .int p2), (3, .int p3)]) dX2_shownByDamp_53 (Nat.le_of_ble_eq_true rfl) rfl ?_
  refine z_iload_n (pc := 55) dX2_shownByDamp_55 rfl ?_
  refine z_iload (pc := 56) dX2_shownByDamp_56 rfl ?_
  refine z_icmp_lt (pc := 58) (t := 72) dX2_shownByDamp_58 (by decide) (fun c_58 => ?_) (fun c_58 => ?_)
  · replace h := h.1 c_58
    refine z_aload_n (pc := 72) dX2_shownByDamp_72 rfl ?_
    refine z_iload (pc := 73) dX2_shownByDamp_73 rfl ?_
    refine k_cVi (pc := 75) (av := [.int r4]) zc2 rfl dX2_shownByDamp_75 lk_X2_70 rfl (by decide) (by decide) (pg_lt hk) (pg_sh hk) rfl h (fun r5 f5 h => ?_)
    exact k_iret (pc := 78) hX dX2_shownByDamp_78 rfl rfl h
  · replace h := h.2 c_58
    refine z_aload_n (pc := 61) dX2_shownByDamp_61 rfl ?_
    refine z_iload (pc := 62) dX2_shownByDamp_62 rfl ?_
    refine z_iload (pc := 64) dX2_shownByDamp_64 rfl ?_
    refine k_cVi (pc := 66) (av := [.int r4, .int r1]) zc2 rfl dX2_shownByDamp_66 lk_X2_63 rfl (by decide) (by decide) (pg_lt hk) (pg_sh hk) rfl h (fun r6 f6 h => ?_)
    refine z_goto (pc := 69) (t := 78) dX2_shownByDamp_69 (by decide) ?_
    exact k_iret (pc := 78) hX dX2_shownByDamp_78 rfl rfl h
set_option maxRecDepth 20000 in
theorem w_X2_shownByLight {f : zF} {K : Int32 → zF → Prop} {k : Nat} {p1 : Int32} {p2 : Int32} (hk : isPage k) (h : ci mX2_letterAt [.ref k, .int p1, .int p2] f (fun r1 f1 => ci mX2_letterBehind [.ref k, .int p1, .int p2] f1 (fun r2 f2 => ci mX2_shownOf [.ref k, .int r1, .int r2] f2 (fun r3 f3 => K r3 f3)))) : ci mX2_shownByLight [.ref k, .int p1, .int p2] f K := by
  refine ci_of (by decide) (Nat.le_of_ble_eq_true rfl) (fun X hX => ?_)
  refine z_aload_n (pc := 0) dX2_shownByLight_0 rfl ?_
  refine z_aload_n (pc := 1) dX2_shownByLight_1 rfl ?_
  refine z_iload_n (pc := 2) dX2_shownByLight_2 rfl ?_
  refine z_iload_n (pc := 3) dX2_shownByLight_3 rfl ?_
  refine k_cVi (pc := 4) (av := [.int p1, .int p2]) zc2 rfl dX2_shownByLight_4 lk_X2_49 rfl (by decide) (by decide) (pg_lt hk) (pg_sh hk) rfl h (fun r1 f1 h => ?_)
  refine z_aload_n (pc := 7) dX2_shownByLight_7 rfl ?_
  refine z_iload_n (pc := 8) dX2_shownByLight_8 rfl ?_
  refine z_iload_n (pc := 9) dX2_shownByLight_9 rfl ?_
  refine k_cVi (pc := 10) (av := [.int p1, .int p2]) zc2 rfl dX2_shownByLight_10 lk_X2_60 rfl (by decide) (by decide) (pg_lt hk) (pg_sh hk) rfl h (fun r2 f2 h => ?_)
  refine k_cVi (pc := 13) (av := [.int r1, .int r2]) zc2 rfl dX2_shownByLight_13 lk_X2_63 rfl (by decide) (by decide) (pg_lt hk) (pg_sh hk) rfl h (fun r3 f3 h => ?_)
  exact k_iret (pc := 16) hX dX2_shownByLight_16 rfl rfl h
set_option maxRecDepth 20000 in
theorem w_X3_readsBack {f : zF} {K : Int32 → zF → Prop}  (h : ∀ X, kR X (zRi K) → Z X mX3_readsBack 2 [(0, .ref 3), (1, .int 0)] [] (zC f)) : ci mX3_readsBack [.ref 3] f K := by
  refine ci_of (by decide) (Nat.le_of_ble_eq_true rfl) (fun X hX => ?_)
  replace h := h X hX
  refine z_iconst (pc := 0) (v := 0) dX3_readsBack_0 ic_0 ?_
  refine z_istore_n (pc := 1) (lv' := [(1, .int 0), (0, .ref 3)]) dX3_readsBack_1 (Nat.le_of_ble_eq_true rfl) rfl ?_
  exact z_sub [1, 0] rfl h
set_option maxRecDepth 20000 in
theorem l_X3_readsBack_2 {X : zX} {f : zF} {K : Int32 → zF → Prop}  {x1 : Int32}  (hX : kR X (zRi K)) (h : (((f 6 2) ≤ x1 → K 1 f) ∧ (¬ (f 6 2) ≤ x1 → ci mX3_takesNumber [.ref 3, .int ((f 6 1) - 1)] f (fun r101 f101 => ((¬ r101 = 0 → cv mX2_putLetter [.ref 6, .int 1, .int x1, .int (f101 3 4)] f101 (fun f102 => Z X mX3_readsBack 2 [(0, .ref 3), (1, .int (x1 + 1))] [] (zC f102))) ∧ (r101 = 0 → K 0 f101)))))) : Z X mX3_readsBack 2 [(0, .ref 3), (1, .int x1)] [] (zC f) := by
  refine z_iload_n (pc := 2) dX3_readsBack_2 rfl ?_
  refine z_aload_n (pc := 3) dX3_readsBack_3 rfl ?_
  refine k_getr (pc := 4) (j := 1) zc3 dX3_readsBack_4 fl_X3_21 (by decide) rfl (by decide) rfl (k2 := 6) rfl ?_
  refine k_geti (pc := 7) (j := 2) zc2 dX3_readsBack_7 fl_X3_118 (by decide) rfl (by decide) rfl (v := (f 6 2)) rfl ?_
  refine z_icmp_ge (pc := 10) (t := 50) dX3_readsBack_10 (by decide) (fun c_10 => ?_) (fun c_10 => ?_)
  · replace h := h.1 c_10
    refine z_iconst (pc := 50) (v := 1) dX3_readsBack_50 ic_1 ?_
    exact k_iret (pc := 51) hX dX3_readsBack_51 rfl rfl h
  · replace h := h.2 c_10
    refine z_aload_n (pc := 13) dX3_readsBack_13 rfl ?_
    refine z_aload_n (pc := 14) dX3_readsBack_14 rfl ?_
    refine k_getr (pc := 15) (j := 1) zc3 dX3_readsBack_15 fl_X3_21 (by decide) rfl (by decide) rfl (k2 := 6) rfl ?_
    refine k_geti (pc := 18) (j := 1) zc2 dX3_readsBack_18 fl_X3_108 (by decide) rfl (by decide) rfl (v := (f 6 1)) rfl ?_
    refine z_iconst (pc := 21) (v := 1) dX3_readsBack_21 ic_1 ?_
    refine z_isub (pc := 22) dX3_readsBack_22 ?_
    refine k_cVi (pc := 23) (av := [.int ((f 6 1) - 1)]) zc3 rfl dX3_readsBack_23 lk_X3_51 rfl (by decide) (by decide) (by decide) rfl rfl h (fun r101 f101 h => ?_)
    refine z_if_ne (pc := 26) (t := 31) dX3_readsBack_26 (by decide) (fun c_26 => ?_) (fun c_26 => ?_)
    · replace h := h.1 c_26
      refine z_aload_n (pc := 31) dX3_readsBack_31 rfl ?_
      refine k_getr (pc := 32) (j := 1) zc3 dX3_readsBack_32 fl_X3_21 (by decide) rfl (by decide) rfl (k2 := 6) rfl ?_
      refine z_iconst (pc := 35) (v := 1) dX3_readsBack_35 ic_1 ?_
      refine z_iload_n (pc := 36) dX3_readsBack_36 rfl ?_
      refine z_aload_n (pc := 37) dX3_readsBack_37 rfl ?_
      refine k_geti (pc := 38) (j := 4) zc3 dX3_readsBack_38 fl_X3_55 (by decide) rfl (by decide) rfl (v := (f101 3 4)) rfl ?_
      refine k_cVv (pc := 41) (av := [.int 1, .int x1, .int (f101 3 4)]) zc2 rfl dX3_readsBack_41 lk_X3_121 rfl (by decide) (by decide) (by decide) rfl rfl h (fun f102 h => ?_)
      refine z_iinc (pc := 44) (v := (x1 + 1)) (lv' := [(1, .int (x1 + 1)), (0, .ref 3)]) dX3_readsBack_44 rfl (congrArg (fun z => x1 + z) ic_1) (Nat.le_of_ble_eq_true rfl) rfl ?_
      refine z_goto (pc := 47) (t := 2) dX3_readsBack_47 (by decide) ?_
      exact z_sub [1, 0] rfl h
    · replace h := h.2 c_26
      refine z_iconst (pc := 29) (v := 0) dX3_readsBack_29 ic_0 ?_
      exact k_iret (pc := 30) hX dX3_readsBack_30 rfl rfl h
set_option maxRecDepth 20000 in
theorem w_X3_readsFront {f : zF} {K : Int32 → zF → Prop}  (h : ∀ X, kR X (zRi K) → Z X mX3_readsFront 2 [(0, .ref 3), (1, .int 0)] [] (zC f)) : ci mX3_readsFront [.ref 3] f K := by
  refine ci_of (by decide) (Nat.le_of_ble_eq_true rfl) (fun X hX => ?_)
  replace h := h X hX
  refine z_iconst (pc := 0) (v := 0) dX3_readsFront_0 ic_0 ?_
  refine z_istore_n (pc := 1) (lv' := [(1, .int 0), (0, .ref 3)]) dX3_readsFront_1 (Nat.le_of_ble_eq_true rfl) rfl ?_
  exact z_sub [1, 0] rfl h
set_option maxRecDepth 20000 in
theorem l_X3_readsFront_2 {X : zX} {f : zF} {K : Int32 → zF → Prop}  {x1 : Int32}  (hX : kR X (zRi K)) (h : ((9 ≤ x1 → (((f 4 2) = 2 → ci mX5_numberTold [.ref 4] f (fun r101 f101 => (∀ z102 : Int32, z102 = (if (f101 6 1) ≤ r101 then 2 else 3) → ci mX3_fails [.ref 3, .int z102] f101 (fun r103 f103 => (narrow .boolean (.int r103) = .int r103 ∧ K r103 f103))))) ∧ (¬ (f 4 2) = 2 → K 1 f))) ∧ (¬ 9 ≤ x1 → ((¬ (f 4 2) = 2 → (((f 4 2) = 2 → ci mX5_numberTold [.ref 4] f (fun r105 f105 => (∀ z106 : Int32, z106 = (if (f105 6 1) ≤ r105 then 2 else 3) → ci mX3_fails [.ref 3, .int z106] f105 (fun r107 f107 => (narrow .boolean (.int r107) = .int r107 ∧ K r107 f107))))) ∧ (¬ (f 4 2) = 2 → K 1 f))) ∧ ((f 4 2) = 2 → ci mX3_takesNumber [.ref 3, .int ((f 6 1) - 1)] f (fun r109 f109 => ((¬ r109 = 0 → cv mX2_addPlace [.ref 6, .int (f109 3 4)] f109 (fun f110 => Z X mX3_readsFront 2 [(0, .ref 3), (1, .int (x1 + 1))] [] (zC f110))) ∧ (r109 = 0 → K 0 f109)))))))) : Z X mX3_readsFront 2 [(0, .ref 3), (1, .int x1)] [] (zC f) := by
  refine z_iload_n (pc := 2) dX3_readsFront_2 rfl ?_
  refine z_bipush (pc := 3) (v := 9) dX3_readsFront_3 bi_9 ?_
  refine z_icmp_ge (pc := 5) (t := 54) dX3_readsFront_5 (by decide) (fun c_5 => ?_) (fun c_5 => ?_)
  · replace h := h.1 c_5
    refine z_aload_n (pc := 54) dX3_readsFront_54 rfl ?_
    refine k_getr (pc := 55) (j := 0) zc3 dX3_readsFront_55 fl_X3_12 (by decide) rfl (by decide) rfl (k2 := 4) rfl ?_
    refine k_geti (pc := 58) (j := 2) zc5 dX3_readsFront_58 fl_X3_105 (by decide) rfl (by decide) rfl (v := (f 4 2)) rfl ?_
    refine z_iconst (pc := 61) (v := 2) dX3_readsFront_61 ic_2 ?_
    refine z_icmp_eq (pc := 62) (t := 67) dX3_readsFront_62 (by decide) (fun c_62 => ?_) (fun c_62 => ?_)
    · replace h := h.1 c_62
      refine z_aload_n (pc := 67) dX3_readsFront_67 rfl ?_
      refine z_aload_n (pc := 68) dX3_readsFront_68 rfl ?_
      refine k_getr (pc := 69) (j := 0) zc3 dX3_readsFront_69 fl_X3_12 (by decide) rfl (by decide) rfl (k2 := 4) rfl ?_
      refine k_cVi (pc := 72) (av := []) zc5 rfl dX3_readsFront_72 lk_X3_115 rfl (by decide) (by decide) (by decide) rfl rfl h (fun r101 f101 h => ?_)
      refine z_aload_n (pc := 75) dX3_readsFront_75 rfl ?_
      refine k_getr (pc := 76) (j := 1) zc3 dX3_readsFront_76 fl_X3_21 (by decide) rfl (by decide) rfl (k2 := 6) rfl ?_
      refine k_geti (pc := 79) (j := 1) zc2 dX3_readsFront_79 fl_X3_108 (by decide) rfl (by decide) rfl (v := (f101 6 1)) rfl ?_
      suffices hm104 : Z X mX3_readsFront 90 [(0, .ref 3), (1, .int x1)] [.int (if (f101 6 1) ≤ r101 then 2 else 3), .ref 3] (zC f101) by
        refine z_icmp_ge (pc := 82) (t := 89) dX3_readsFront_82 (by decide) (fun c_82 => ?_) (fun c_82 => ?_)
        · rw [if_pos c_82] at hm104
          refine z_iconst (pc := 89) (v := 2) dX3_readsFront_89 ic_2 ?_
          exact hm104
        · rw [if_neg c_82] at hm104
          refine z_iconst (pc := 85) (v := 3) dX3_readsFront_85 ic_3 ?_
          refine z_goto (pc := 86) (t := 90) dX3_readsFront_86 (by decide) ?_
          exact hm104
      refine z_name (fun z102 e_z102 => ?_)
      replace h := h z102 e_z102
      refine k_cVi (pc := 90) (av := [.int z102]) zc3 rfl dX3_readsFront_90 lk_X3_73 rfl (by decide) (by decide) (by decide) rfl rfl h (fun r103 f103 h => ?_)
      exact k_iret (pc := 93) hX dX3_readsFront_93 rfl h.1 h.2
    · replace h := h.2 c_62
      refine z_iconst (pc := 65) (v := 1) dX3_readsFront_65 ic_1 ?_
      exact k_iret (pc := 66) hX dX3_readsFront_66 rfl rfl h
  · replace h := h.2 c_5
    refine z_aload_n (pc := 8) dX3_readsFront_8 rfl ?_
    refine k_getr (pc := 9) (j := 0) zc3 dX3_readsFront_9 fl_X3_12 (by decide) rfl (by decide) rfl (k2 := 4) rfl ?_
    refine k_geti (pc := 12) (j := 2) zc5 dX3_readsFront_12 fl_X3_105 (by decide) rfl (by decide) rfl (v := (f 4 2)) rfl ?_
    refine z_iconst (pc := 15) (v := 2) dX3_readsFront_15 ic_2 ?_
    refine z_icmp_ne (pc := 16) (t := 54) dX3_readsFront_16 (by decide) (fun c_16 => ?_) (fun c_16 => ?_)
    · replace h := h.1 c_16
      refine z_aload_n (pc := 54) dX3_readsFront_54 rfl ?_
      refine k_getr (pc := 55) (j := 0) zc3 dX3_readsFront_55 fl_X3_12 (by decide) rfl (by decide) rfl (k2 := 4) rfl ?_
      refine k_geti (pc := 58) (j := 2) zc5 dX3_readsFront_58 fl_X3_105 (by decide) rfl (by decide) rfl (v := (f 4 2)) rfl ?_
      refine z_iconst (pc := 61) (v := 2) dX3_readsFront_61 ic_2 ?_
      refine z_icmp_eq (pc := 62) (t := 67) dX3_readsFront_62 (by decide) (fun c_62 => ?_) (fun c_62 => ?_)
      · replace h := h.1 c_62
        refine z_aload_n (pc := 67) dX3_readsFront_67 rfl ?_
        refine z_aload_n (pc := 68) dX3_readsFront_68 rfl ?_
        refine k_getr (pc := 69) (j := 0) zc3 dX3_readsFront_69 fl_X3_12 (by decide) rfl (by decide) rfl (k2 := 4) rfl ?_
        refine k_cVi (pc := 72) (av := []) zc5 rfl dX3_readsFront_72 lk_X3_115 rfl (by decide) (by decide) (by decide) rfl rfl h (fun r105 f105 h => ?_)
        refine z_aload_n (pc := 75) dX3_readsFront_75 rfl ?_
        refine k_getr (pc := 76) (j := 1) zc3 dX3_readsFront_76 fl_X3_21 (by decide) rfl (by decide) rfl (k2 := 6) rfl ?_
        refine k_geti (pc := 79) (j := 1) zc2 dX3_readsFront_79 fl_X3_108 (by decide) rfl (by decide) rfl (v := (f105 6 1)) rfl ?_
        suffices hm108 : Z X mX3_readsFront 90 [(0, .ref 3), (1, .int x1)] [.int (if (f105 6 1) ≤ r105 then 2 else 3), .ref 3] (zC f105) by
          refine z_icmp_ge (pc := 82) (t := 89) dX3_readsFront_82 (by decide) (fun c_82 => ?_) (fun c_82 => ?_)
          · rw [if_pos c_82] at hm108
            refine z_iconst (pc := 89) (v := 2) dX3_readsFront_89 ic_2 ?_
            exact hm108
          · rw [if_neg c_82] at hm108
            refine z_iconst (pc := 85) (v := 3) dX3_readsFront_85 ic_3 ?_
            refine z_goto (pc := 86) (t := 90) dX3_readsFront_86 (by decide) ?_
            exact hm108
        refine z_name (fun z106 e_z106 => ?_)
        replace h := h z106 e_z106
        refine k_cVi (pc := 90) (av := [.int z106]) zc3 rfl dX3_readsFront_90 lk_X3_73 rfl (by decide) (by decide) (by decide) rfl rfl h (fun r107 f107 h => ?_)
        exact k_iret (pc := 93) hX dX3_readsFront_93 rfl h.1 h.2
      · replace h := h.2 c_62
        refine z_iconst (pc := 65) (v := 1) dX3_readsFront_65 ic_1 ?_
        exact k_iret (pc := 66) hX dX3_readsFront_66 rfl rfl h
    · replace h := h.2 c_16
      refine z_aload_n (pc := 19) dX3_readsFront_19 rfl ?_
      refine z_aload_n (pc := 20) dX3_readsFront_20 rfl ?_
      refine k_getr (pc := 21) (j := 1) zc3 dX3_readsFront_21 fl_X3_21 (by decide) rfl (by decide) rfl (k2 := 6) rfl ?_
      refine k_geti (pc := 24) (j := 1) zc2 dX3_readsFront_24 fl_X3_108 (by decide) rfl (by decide) rfl (v := (f 6 1)) rfl ?_
      refine z_iconst (pc := 27) (v := 1) dX3_readsFront_27 ic_1 ?_
      refine z_isub (pc := 28) dX3_readsFront_28 ?_
      refine k_cVi (pc := 29) (av := [.int ((f 6 1) - 1)]) zc3 rfl dX3_readsFront_29 lk_X3_51 rfl (by decide) (by decide) (by decide) rfl rfl h (fun r109 f109 h => ?_)
      refine z_if_ne (pc := 32) (t := 37) dX3_readsFront_32 (by decide) (fun c_32 => ?_) (fun c_32 => ?_)
      · replace h := h.1 c_32
        refine z_aload_n (pc := 37) dX3_readsFront_37 rfl ?_
        refine k_getr (pc := 38) (j := 1) zc3 dX3_readsFront_38 fl_X3_21 (by decide) rfl (by decide) rfl (k2 := 6) rfl ?_
        refine z_aload_n (pc := 41) dX3_readsFront_41 rfl ?_
        refine k_geti (pc := 42) (j := 4) zc3 dX3_readsFront_42 fl_X3_55 (by decide) rfl (by decide) rfl (v := (f109 3 4)) rfl ?_
        refine k_cVv (pc := 45) (av := [.int (f109 3 4)]) zc2 rfl dX3_readsFront_45 lk_X3_111 rfl (by decide) (by decide) (by decide) rfl rfl h (fun f110 h => ?_)
        refine z_iinc (pc := 48) (v := (x1 + 1)) (lv' := [(1, .int (x1 + 1)), (0, .ref 3)]) dX3_readsFront_48 rfl (congrArg (fun z => x1 + z) ic_1) (Nat.le_of_ble_eq_true rfl) rfl ?_
        refine z_goto (pc := 51) (t := 2) dX3_readsFront_51 (by decide) ?_
        exact z_sub [1, 0] rfl h
      · replace h := h.2 c_32
        refine z_iconst (pc := 35) (v := 0) dX3_readsFront_35 ic_0 ?_
        exact k_iret (pc := 36) hX dX3_readsFront_36 rfl rfl h
set_option maxRecDepth 20000 in
theorem w_X6_cellsOrReading {f : zF} {K : Int32 → zF → Prop} {p1 : Int32} {p2 : Int32} (h : ((p2 = 0 → K p1 f) ∧ (p2 = 1 → ci mX2_nearest [.ref 12, .int p1] f (fun r1 f1 => K r1 f1)) ∧ (¬ p2 = 0 → ¬ p2 = 1 → K (-1000001) f))) : ci mX6_cellsOrReading [.ref 0, .int p1, .int p2] f K := by
  refine ci_of (by decide) (Nat.le_of_ble_eq_true rfl) (fun X hX => ?_)
  refine z_iload_n (pc := 0) dX6_cellsOrReading_0 rfl ?_
  rcases Classical.em (p2 = 0) with c_1_0 | c_1_0
  · replace h := h.1 c_1_0
    refine z_lsw (pc := 1) (t := 28) (off := 27) dX6_cellsOrReading_1 (by decide) (by rw [c_1_0]; decide) (by decide) ?_
    refine z_iload_n (pc := 28) dX6_cellsOrReading_28 rfl ?_
    exact k_iret (pc := 29) hX dX6_cellsOrReading_29 rfl rfl h
  · rcases Classical.em (p2 = 1) with c_1_1 | c_1_1
    · replace h := h.2.1 c_1_1
      refine z_lsw (pc := 1) (t := 30) (off := 29) dX6_cellsOrReading_1 (by decide) (by rw [c_1_1]; decide) (by decide) ?_
      refine z_aload_n (pc := 30) dX6_cellsOrReading_30 rfl ?_
      refine k_getr (pc := 31) (j := 3) zc6 dX6_cellsOrReading_31 fl_X6_29 (by decide) rfl (by decide) rfl (k2 := 12) rfl ?_
      refine z_iload_n (pc := 34) dX6_cellsOrReading_34 rfl ?_
      refine k_cVi (pc := 35) (av := [.int p1]) zc2 rfl dX6_cellsOrReading_35 lk_X6_255 rfl (by decide) (by decide) (by decide) rfl rfl h (fun r1 f1 h => ?_)
      exact k_iret (pc := 38) hX dX6_cellsOrReading_38 rfl rfl h
    · replace h := h.2.2 c_1_0 c_1_1
      refine z_lsw (pc := 1) (t := 39) (off := 38) dX6_cellsOrReading_1 (by decide) (by show Op.lookupswitch.offset [(0, 27), (1, 29)] _ _ = _; rw [lv_osw c_1_0 (by decide), lv_osw c_1_1 (by decide)]; rfl) (by decide) ?_
      refine z_ldc (pc := 39) (v := -1000001) dX6_cellsOrReading_39 co_X6_52 ?_
      exact k_iret (pc := 41) hX dX6_cellsOrReading_41 rfl rfl h
set_option maxRecDepth 20000 in
theorem w_X6_copy {f : zF} {K : Int32 → zF → Prop} {p1 : Int32} {p2 : Int32} {p3 : Int32} {p4 : Int32} {p5 : Int32} (h : cq mX6_rowOf [.ref 0, .int p1] f (fun r1 f1 => (r1 = none → cq mX6_rowOf [.ref 0, .int p3] f1 (fun r2 f2 => (r2 = none → K (-1000001) f2) ∧ (∀ k2, r2 = some k2 → (isRow k2 ∧ K (-1000001) f2)))) ∧ (∀ k1, r1 = some k1 → (isRow k1 ∧ cq mX6_rowOf [.ref 0, .int p3] f1 (fun r3 f3 => (r3 = none → K (-1000001) f3) ∧ (∀ k3, r3 = some k3 → (isRow k3 ∧ ci mX4_isMissing [.ref k1] f3 (fun r4 f4 => ((¬ r4 = 0 → ci mX6_found [.ref 0, .int 1] f4 (fun r5 f5 => K r5 f5)) ∧ (r4 = 0 → ci mX4_isMissing [.ref k3] f4 (fun r6 f6 => ((r6 = 0 → (((f6 k1 1) = (f6 k3 1) → ci mX4_holds [.ref k1, .int p2, .int p5] f6 (fun r7 f7 => ((r7 = 0 → ci mX6_found [.ref 0, .int 2] f7 (fun r8 f8 => K r8 f8)) ∧ (¬ r7 = 0 → ci mX4_holds [.ref k3, .int p4, .int p5] f7 (fun r9 f9 => ((¬ r9 = 0 → cv mX4_takeItems [.ref k3, .ref k1, .int p2, .int p4, .int p5] f9 (fun f10 => ci mX6_unfound [.ref 0, .int p5] f10 (fun r11 f11 => K r11 f11))) ∧ (r9 = 0 → ci mX6_found [.ref 0, .int 2] f9 (fun r12 f12 => K r12 f12)))))))) ∧ (¬ (f6 k1 1) = (f6 k3 1) → ci mX6_found [.ref 0, .int 5] f6 (fun r13 f13 => K r13 f13)))) ∧ (¬ r6 = 0 → ci mX6_found [.ref 0, .int 1] f6 (fun r14 f14 => K r14 f14)))))))))))))) : ci mX6_copy [.ref 0, .int p1, .int p2, .int p3, .int p4, .int p5] f K := by
  refine ci_of (by decide) (Nat.le_of_ble_eq_true rfl) (fun X hX => ?_)
  refine z_aload_n (pc := 0) dX6_copy_0 rfl ?_
  refine z_iload_n (pc := 1) dX6_copy_1 rfl ?_
  refine k_cVq (pc := 2) (av := [.int p1]) zc6 rfl dX6_copy_2 lk_X6_48 rfl (by decide) (by decide) (by decide) rfl rfl h (fun r1 f1 h => ?_)
  rcases r1 with _ | k1
  · replace h := h.1 rfl
    refine z_astoreN (pc := 5) (lv' := [(6, .null), (0, .ref 0), (1, .int p1), (2, .int p2), (3, .int p3), (4, .int p4), (5, .int p5)]) dX6_copy_5 (Nat.le_of_ble_eq_true rfl) rfl ?_
    refine z_aload_n (pc := 7) dX6_copy_7 rfl ?_
    refine z_iload_n (pc := 8) dX6_copy_8 rfl ?_
    refine k_cVq (pc := 9) (av := [.int p3]) zc6 rfl dX6_copy_9 lk_X6_48 rfl (by decide) (by decide) (by decide) rfl rfl h (fun r2 f2 h => ?_)
    rcases r2 with _ | k2
    · replace h := h.1 rfl
      refine z_astoreN (pc := 12) (lv' := [(7, .null), (6, .null), (0, .ref 0), (1, .int p1), (2, .int p2), (3, .int p3), (4, .int p4), (5, .int p5)]) dX6_copy_12 (Nat.le_of_ble_eq_true rfl) rfl ?_
      refine z_aloadN (pc := 14) dX6_copy_14 rfl ?_
      refine z_ifnullN (pc := 16) (t := 24) dX6_copy_16 (by decide) ?_
      refine z_ldc (pc := 24) (v := -1000001) dX6_copy_24 co_X6_52 ?_
      exact k_iret (pc := 26) hX dX6_copy_26 rfl rfl h
    · replace h := h.2 k2 rfl
      have hk2 := h.1
      replace h := h.2
      refine z_astore (pc := 12) (lv' := [(7, .ref k2), (6, .null), (0, .ref 0), (1, .int p1), (2, .int p2), (3, .int p3), (4, .int p4), (5, .int p5)]) dX6_copy_12 (Nat.le_of_ble_eq_true rfl) rfl ?_
      refine z_aloadN (pc := 14) dX6_copy_14 rfl ?_
      refine z_ifnullN (pc := 16) (t := 24) dX6_copy_16 (by decide) ?_
      refine z_ldc (pc := 24) (v := -1000001) dX6_copy_24 co_X6_52 ?_
      exact k_iret (pc := 26) hX dX6_copy_26 rfl rfl h
  · replace h := h.2 k1 rfl
    have hk1 := h.1
    replace h := h.2
    refine z_astore (pc := 5) (lv' := [(6, .ref k1), (0, .ref 0), (1, .int p1), (2, .int p2), (3, .int p3), (4, .int p4), (5, .int p5)]) dX6_copy_5 (Nat.le_of_ble_eq_true rfl) rfl ?_
    refine z_aload_n (pc := 7) dX6_copy_7 rfl ?_
    refine z_iload_n (pc := 8) dX6_copy_8 rfl ?_
    refine k_cVq (pc := 9) (av := [.int p3]) zc6 rfl dX6_copy_9 lk_X6_48 rfl (by decide) (by decide) (by decide) rfl rfl h (fun r3 f3 h => ?_)
    rcases r3 with _ | k3
    · replace h := h.1 rfl
      refine z_astoreN (pc := 12) (lv' := [(7, .null), (6, .ref k1), (0, .ref 0), (1, .int p1), (2, .int p2), (3, .int p3), (4, .int p4), (5, .int p5)]) dX6_copy_12 (Nat.le_of_ble_eq_true rfl) rfl ?_
      refine z_aload (pc := 14) dX6_copy_14 rfl ?_
      refine z_ifnull (pc := 16) dX6_copy_16 ?_
      refine z_aloadN (pc := 19) dX6_copy_19 rfl ?_
      refine z_ifnonnullN (pc := 21) dX6_copy_21 ?_
      refine z_ldc (pc := 24) (v := -1000001) dX6_copy_24 co_X6_52 ?_
      exact k_iret (pc := 26) hX dX6_copy_26 rfl rfl h
    · replace h := h.2 k3 rfl
      have hk3 := h.1
      replace h := h.2
      refine z_astore (pc := 12) (lv' := [(7, .ref k3), (6, .ref k1), (0, .ref 0), (1, .int p1), (2, .int p2), (3, .int p3), (4, .int p4), (5, .int p5)]) dX6_copy_12 (Nat.le_of_ble_eq_true rfl) rfl ?_
      refine z_aload (pc := 14) dX6_copy_14 rfl ?_
      refine z_ifnull (pc := 16) dX6_copy_16 ?_
      refine z_aload (pc := 19) dX6_copy_19 rfl ?_
      refine z_ifnonnull (pc := 21) (t := 27) dX6_copy_21 (by decide) ?_
      refine z_aload (pc := 27) dX6_copy_27 rfl ?_
      refine k_cVi (pc := 29) (av := []) zc4 rfl dX6_copy_29 lk_X6_64 rfl (by decide) (by decide) (rw_lt hk1) (rw_sh hk1) rfl h (fun r4 f4 h => ?_)
      refine z_if_ne (pc := 32) (t := 43) dX6_copy_32 (by decide) (fun c_32 => ?_) (fun c_32 => ?_)
      · replace h := h.1 c_32
        refine z_aload_n (pc := 43) dX6_copy_43 rfl ?_
        refine z_iconst (pc := 44) (v := 1) dX6_copy_44 ic_1 ?_
        refine k_cVi (pc := 45) (av := [.int 1]) zc6 rfl dX6_copy_45 lk_X6_53 rfl (by decide) (by decide) (by decide) rfl rfl h (fun r5 f5 h => ?_)
        exact k_iret (pc := 48) hX dX6_copy_48 rfl rfl h
      · replace h := h.2 c_32
        refine z_aload (pc := 35) dX6_copy_35 rfl ?_
        refine k_cVi (pc := 37) (av := []) zc4 rfl dX6_copy_37 lk_X6_64 rfl (by decide) (by decide) (rw_lt hk3) (rw_sh hk3) rfl h (fun r6 f6 h => ?_)
        refine z_if_eq (pc := 40) (t := 49) dX6_copy_40 (by decide) (fun c_40 => ?_) (fun c_40 => ?_)
        · replace h := h.1 c_40
          refine z_aload (pc := 49) dX6_copy_49 rfl ?_
          refine k_geti (pc := 51) (j := 1) zc4 dX6_copy_51 fl_X6_78 (by decide) rfl (rw_lt hk1) (rw_sh hk1) (v := (f6 k1 1)) rfl ?_
          refine z_aload (pc := 54) dX6_copy_54 rfl ?_
          refine k_geti (pc := 56) (j := 1) zc4 dX6_copy_56 fl_X6_78 (by decide) rfl (rw_lt hk3) (rw_sh hk3) (v := (f6 k3 1)) rfl ?_
          refine z_icmp_eq (pc := 59) (t := 68) dX6_copy_59 (by decide) (fun c_59 => ?_) (fun c_59 => ?_)
          · replace h := h.1 c_59
            refine z_aload (pc := 68) dX6_copy_68 rfl ?_
            refine z_iload_n (pc := 70) dX6_copy_70 rfl ?_
            refine z_iload (pc := 71) dX6_copy_71 rfl ?_
            refine k_cVi (pc := 73) (av := [.int p2, .int p5]) zc4 rfl dX6_copy_73 lk_X6_68 rfl (by decide) (by decide) (rw_lt hk1) (rw_sh hk1) rfl h (fun r7 f7 h => ?_)
            refine z_if_eq (pc := 76) (t := 91) dX6_copy_76 (by decide) (fun c_76 => ?_) (fun c_76 => ?_)
            · replace h := h.1 c_76
              refine z_aload_n (pc := 91) dX6_copy_91 rfl ?_
              refine z_iconst (pc := 92) (v := 2) dX6_copy_92 ic_2 ?_
              refine k_cVi (pc := 93) (av := [.int 2]) zc6 rfl dX6_copy_93 lk_X6_53 rfl (by decide) (by decide) (by decide) rfl rfl h (fun r8 f8 h => ?_)
              exact k_iret (pc := 96) hX dX6_copy_96 rfl rfl h
            · replace h := h.2 c_76
              refine z_aload (pc := 79) dX6_copy_79 rfl ?_
              refine z_iload (pc := 81) dX6_copy_81 rfl ?_
              refine z_iload (pc := 83) dX6_copy_83 rfl ?_
              refine k_cVi (pc := 85) (av := [.int p4, .int p5]) zc4 rfl dX6_copy_85 lk_X6_68 rfl (by decide) (by decide) (rw_lt hk3) (rw_sh hk3) rfl h (fun r9 f9 h => ?_)
              refine z_if_ne (pc := 88) (t := 97) dX6_copy_88 (by decide) (fun c_88 => ?_) (fun c_88 => ?_)
              · replace h := h.1 c_88
                refine z_aload (pc := 97) dX6_copy_97 rfl ?_
                refine z_aload (pc := 99) dX6_copy_99 rfl ?_
                refine z_iload_n (pc := 101) dX6_copy_101 rfl ?_
                refine z_iload (pc := 102) dX6_copy_102 rfl ?_
                refine z_iload (pc := 104) dX6_copy_104 rfl ?_
                refine k_cVv (pc := 106) (av := [.ref k1, .int p2, .int p4, .int p5]) zc4 rfl dX6_copy_106 lk_X6_82 rfl (by decide) (by decide) (rw_lt hk3) (rw_sh hk3) rfl h (fun f10 h => ?_)
                refine z_aload_n (pc := 109) dX6_copy_109 rfl ?_
                refine z_iload (pc := 110) dX6_copy_110 rfl ?_
                refine k_cVi (pc := 112) (av := [.int p5]) zc6 rfl dX6_copy_112 lk_X6_61 rfl (by decide) (by decide) (by decide) rfl rfl h (fun r11 f11 h => ?_)
                exact k_iret (pc := 115) hX dX6_copy_115 rfl rfl h
              · replace h := h.2 c_88
                refine z_aload_n (pc := 91) dX6_copy_91 rfl ?_
                refine z_iconst (pc := 92) (v := 2) dX6_copy_92 ic_2 ?_
                refine k_cVi (pc := 93) (av := [.int 2]) zc6 rfl dX6_copy_93 lk_X6_53 rfl (by decide) (by decide) (by decide) rfl rfl h (fun r12 f12 h => ?_)
                exact k_iret (pc := 96) hX dX6_copy_96 rfl rfl h
          · replace h := h.2 c_59
            refine z_aload_n (pc := 62) dX6_copy_62 rfl ?_
            refine z_iconst (pc := 63) (v := 5) dX6_copy_63 ic_5 ?_
            refine k_cVi (pc := 64) (av := [.int 5]) zc6 rfl dX6_copy_64 lk_X6_53 rfl (by decide) (by decide) (by decide) rfl rfl h (fun r13 f13 h => ?_)
            exact k_iret (pc := 67) hX dX6_copy_67 rfl rfl h
        · replace h := h.2 c_40
          refine z_aload_n (pc := 43) dX6_copy_43 rfl ?_
          refine z_iconst (pc := 44) (v := 1) dX6_copy_44 ic_1 ?_
          refine k_cVi (pc := 45) (av := [.int 1]) zc6 rfl dX6_copy_45 lk_X6_53 rfl (by decide) (by decide) (by decide) rfl rfl h (fun r14 f14 h => ?_)
          exact k_iret (pc := 48) hX dX6_copy_48 rfl rfl h
set_option maxRecDepth 20000 in
theorem w_X6_fits {f : zF} {K : Int32 → zF → Prop} {p1 : Int32} {p2 : Int32} (h : ci mX2_hasPlace [.ref 12, .int 0, .int p1] f (fun r1 f1 => ((r1 = 0 → K (-1000001) f1) ∧ (¬ r1 = 0 → ci mX6_areCells [.int p2] f1 (fun r2 f2 => ((r2 = 0 → K (-1000001) f2) ∧ (¬ r2 = 0 → ci mX2_fitting [.ref 12, .int p1, .int p2] f2 (fun r3 f3 => K r3 f3)))))))) : ci mX6_fits [.ref 0, .int p1, .int p2] f K := by
  refine ci_of (by decide) (Nat.le_of_ble_eq_true rfl) (fun X hX => ?_)
  refine z_aload_n (pc := 0) dX6_fits_0 rfl ?_
  refine k_getr (pc := 1) (j := 3) zc6 dX6_fits_1 fl_X6_29 (by decide) rfl (by decide) rfl (k2 := 12) rfl ?_
  refine z_iconst (pc := 4) (v := 0) dX6_fits_4 ic_0 ?_
  refine z_iload_n (pc := 5) dX6_fits_5 rfl ?_
  refine k_cVi (pc := 6) (av := [.int 0, .int p1]) zc2 rfl dX6_fits_6 lk_X6_127 rfl (by decide) (by decide) (by decide) rfl rfl h (fun r1 f1 h => ?_)
  refine z_if_eq (pc := 9) (t := 31) dX6_fits_9 (by decide) (fun c_9 => ?_) (fun c_9 => ?_)
  · replace h := h.1 c_9
    refine z_ldc (pc := 31) (v := -1000001) dX6_fits_31 co_X6_52 ?_
    exact k_iret (pc := 33) hX dX6_fits_33 rfl rfl h
  · replace h := h.2 c_9
    refine z_iload_n (pc := 12) dX6_fits_12 rfl ?_
    refine k_cSi (pc := 13) (av := [.int p2]) dX6_fits_13 lk_X6_190 rfl (by decide) (by decide) rfl h (fun r2 f2 h => ?_)
    refine z_if_eq (pc := 16) (t := 31) dX6_fits_16 (by decide) (fun c_16 => ?_) (fun c_16 => ?_)
    · replace h := h.1 c_16
      refine z_ldc (pc := 31) (v := -1000001) dX6_fits_31 co_X6_52 ?_
      exact k_iret (pc := 33) hX dX6_fits_33 rfl rfl h
    · replace h := h.2 c_16
      refine z_aload_n (pc := 19) dX6_fits_19 rfl ?_
      refine k_getr (pc := 20) (j := 3) zc6 dX6_fits_20 fl_X6_29 (by decide) rfl (by decide) rfl (k2 := 12) rfl ?_
      refine z_iload_n (pc := 23) dX6_fits_23 rfl ?_
      refine z_iload_n (pc := 24) dX6_fits_24 rfl ?_
      refine k_cVi (pc := 25) (av := [.int p1, .int p2]) zc2 rfl dX6_fits_25 lk_X6_209 rfl (by decide) (by decide) (by decide) rfl rfl h (fun r3 f3 h => ?_)
      refine z_goto (pc := 28) (t := 33) dX6_fits_28 (by decide) ?_
      exact k_iret (pc := 33) hX dX6_fits_33 rfl rfl h
set_option maxRecDepth 20000 in
theorem w_X6_image {f : zF} {K : Int32 → zF → Prop} {p1 : Int32} (h : cq mX6_imageOf [.ref 0, .int p1] f (fun r1 f1 => (r1 = none → K (-1000001) f1) ∧ (∀ k1, r1 = some k1 → (isPage k1 ∧ ci mX2_isThere [.ref 12] f1 (fun r2 f2 => ((¬ r2 = 0 → cv mX2_takeAll [.ref k1, .ref 12] f2 (fun f3 => K 1 f3)) ∧ (r2 = 0 → K (-1000002) f2))))))) : ci mX6_image [.ref 0, .int p1] f K := by
  refine ci_of (by decide) (Nat.le_of_ble_eq_true rfl) (fun X hX => ?_)
  refine z_aload_n (pc := 0) dX6_image_0 rfl ?_
  refine z_iload_n (pc := 1) dX6_image_1 rfl ?_
  refine k_cVq (pc := 2) (av := [.int p1]) zc6 rfl dX6_image_2 lk_X6_225 rfl (by decide) (by decide) (by decide) rfl rfl h (fun r1 f1 h => ?_)
  rcases r1 with _ | k1
  · replace h := h.1 rfl
    refine z_astore_nN (pc := 5) (lv' := [(2, .null), (0, .ref 0), (1, .int p1)]) dX6_image_5 (Nat.le_of_ble_eq_true rfl) rfl ?_
    refine z_aload_nN (pc := 6) dX6_image_6 rfl ?_
    refine z_ifnonnullN (pc := 7) dX6_image_7 ?_
    refine z_ldc (pc := 10) (v := -1000001) dX6_image_10 co_X6_52 ?_
    exact k_iret (pc := 12) hX dX6_image_12 rfl rfl h
  · replace h := h.2 k1 rfl
    have hk1 := h.1
    replace h := h.2
    refine z_astore_n (pc := 5) (lv' := [(2, .ref k1), (0, .ref 0), (1, .int p1)]) dX6_image_5 (Nat.le_of_ble_eq_true rfl) rfl ?_
    refine z_aload_n (pc := 6) dX6_image_6 rfl ?_
    refine z_ifnonnull (pc := 7) (t := 13) dX6_image_7 (by decide) ?_
    refine z_aload_n (pc := 13) dX6_image_13 rfl ?_
    refine k_getr (pc := 14) (j := 3) zc6 dX6_image_14 fl_X6_29 (by decide) rfl (by decide) rfl (k2 := 12) rfl ?_
    refine k_cVi (pc := 17) (av := []) zc2 rfl dX6_image_17 lk_X6_145 rfl (by decide) (by decide) (by decide) rfl rfl h (fun r2 f2 h => ?_)
    refine z_if_ne (pc := 20) (t := 26) dX6_image_20 (by decide) (fun c_20 => ?_) (fun c_20 => ?_)
    · replace h := h.1 c_20
      refine z_aload_n (pc := 26) dX6_image_26 rfl ?_
      refine z_aload_n (pc := 27) dX6_image_27 rfl ?_
      refine k_getr (pc := 28) (j := 3) zc6 dX6_image_28 fl_X6_29 (by decide) rfl (by decide) rfl (k2 := 12) rfl ?_
      refine k_cVv (pc := 31) (av := [.ref 12]) zc2 rfl dX6_image_31 lk_X6_114 rfl (by decide) (by decide) (pg_lt hk1) (pg_sh hk1) rfl h (fun f3 h => ?_)
      refine z_iconst (pc := 34) (v := 1) dX6_image_34 ic_1 ?_
      exact k_iret (pc := 35) hX dX6_image_35 rfl rfl h
    · replace h := h.2 c_20
      refine z_ldc (pc := 23) (v := -1000002) dX6_image_23 co_X6_148 ?_
      exact k_iret (pc := 25) hX dX6_image_25 rfl rfl h
set_option maxRecDepth 20000 in
theorem w_X6_refusalOfLetters {f : zF} {K : Int32 → zF → Prop} {k1 : Nat} (hk1 : isRow k1) (h : ci mX2_isThere [.ref 12] f (fun r1 f1 => ((¬ r1 = 0 → ci mX4_isMissing [.ref k1] f1 (fun r2 f2 => ((r2 = 0 → (((f2 12 2) ≤ (f2 k1 2) → ci mX2_canBeABack [.ref 12, .ref k1] f2 (fun r3 f3 => ((r3 = 0 → K (-1000001) f3) ∧ (¬ r3 = 0 → K 0 f3)))) ∧ (¬ (f2 12 2) ≤ (f2 k1 2) → ci mX6_found [.ref 0, .int 2] f2 (fun r4 f4 => K r4 f4)))) ∧ (¬ r2 = 0 → ci mX6_found [.ref 0, .int 1] f2 (fun r5 f5 => K r5 f5))))) ∧ (r1 = 0 → K (-1000002) f1)))) : ci mX6_refusalOfLetters [.ref 0, .ref k1] f K := by
  refine ci_of (by decide) (Nat.le_of_ble_eq_true rfl) (fun X hX => ?_)
  refine z_aload_n (pc := 0) dX6_refusalOfLetters_0 rfl ?_
  refine k_getr (pc := 1) (j := 3) zc6 dX6_refusalOfLetters_1 fl_X6_29 (by decide) rfl (by decide) rfl (k2 := 12) rfl ?_
  refine k_cVi (pc := 4) (av := []) zc2 rfl dX6_refusalOfLetters_4 lk_X6_145 rfl (by decide) (by decide) (by decide) rfl rfl h (fun r1 f1 h => ?_)
  refine z_if_ne (pc := 7) (t := 13) dX6_refusalOfLetters_7 (by decide) (fun c_7 => ?_) (fun c_7 => ?_)
  · replace h := h.1 c_7
    refine z_aload_n (pc := 13) dX6_refusalOfLetters_13 rfl ?_
    refine z_ifnonnull (pc := 14) (t := 20) dX6_refusalOfLetters_14 (by decide) ?_
    refine z_aload_n (pc := 20) dX6_refusalOfLetters_20 rfl ?_
    refine k_cVi (pc := 21) (av := []) zc4 rfl dX6_refusalOfLetters_21 lk_X6_64 rfl (by decide) (by decide) (rw_lt hk1) (rw_sh hk1) rfl h (fun r2 f2 h => ?_)
    refine z_if_eq (pc := 24) (t := 33) dX6_refusalOfLetters_24 (by decide) (fun c_24 => ?_) (fun c_24 => ?_)
    · replace h := h.1 c_24
      refine z_aload_n (pc := 33) dX6_refusalOfLetters_33 rfl ?_
      refine k_geti (pc := 34) (j := 2) zc4 dX6_refusalOfLetters_34 fl_X6_86 (by decide) rfl (rw_lt hk1) (rw_sh hk1) (v := (f2 k1 2)) rfl ?_
      refine z_aload_n (pc := 37) dX6_refusalOfLetters_37 rfl ?_
      refine k_getr (pc := 38) (j := 3) zc6 dX6_refusalOfLetters_38 fl_X6_29 (by decide) rfl (by decide) rfl (k2 := 12) rfl ?_
      refine k_geti (pc := 41) (j := 2) zc2 dX6_refusalOfLetters_41 fl_X6_121 (by decide) rfl (by decide) rfl (v := (f2 12 2)) rfl ?_
      refine z_icmp_ge (pc := 44) (t := 53) dX6_refusalOfLetters_44 (by decide) (fun c_44 => ?_) (fun c_44 => ?_)
      · replace h := h.1 c_44
        refine z_aload_n (pc := 53) dX6_refusalOfLetters_53 rfl ?_
        refine k_getr (pc := 54) (j := 3) zc6 dX6_refusalOfLetters_54 fl_X6_29 (by decide) rfl (by decide) rfl (k2 := 12) rfl ?_
        refine z_aload_n (pc := 57) dX6_refusalOfLetters_57 rfl ?_
        refine k_cVi (pc := 58) (av := [.ref k1]) zc2 rfl dX6_refusalOfLetters_58 lk_X6_218 rfl (by decide) (by decide) (by decide) rfl rfl h (fun r3 f3 h => ?_)
        refine z_if_eq (pc := 61) (t := 68) dX6_refusalOfLetters_61 (by decide) (fun c_61 => ?_) (fun c_61 => ?_)
        · replace h := h.1 c_61
          refine z_ldc (pc := 68) (v := -1000001) dX6_refusalOfLetters_68 co_X6_52 ?_
          exact k_iret (pc := 70) hX dX6_refusalOfLetters_70 rfl rfl h
        · replace h := h.2 c_61
          refine z_iconst (pc := 64) (v := 0) dX6_refusalOfLetters_64 ic_0 ?_
          refine z_goto (pc := 65) (t := 70) dX6_refusalOfLetters_65 (by decide) ?_
          exact k_iret (pc := 70) hX dX6_refusalOfLetters_70 rfl rfl h
      · replace h := h.2 c_44
        refine z_aload_n (pc := 47) dX6_refusalOfLetters_47 rfl ?_
        refine z_iconst (pc := 48) (v := 2) dX6_refusalOfLetters_48 ic_2 ?_
        refine k_cVi (pc := 49) (av := [.int 2]) zc6 rfl dX6_refusalOfLetters_49 lk_X6_53 rfl (by decide) (by decide) (by decide) rfl rfl h (fun r4 f4 h => ?_)
        exact k_iret (pc := 52) hX dX6_refusalOfLetters_52 rfl rfl h
    · replace h := h.2 c_24
      refine z_aload_n (pc := 27) dX6_refusalOfLetters_27 rfl ?_
      refine z_iconst (pc := 28) (v := 1) dX6_refusalOfLetters_28 ic_1 ?_
      refine k_cVi (pc := 29) (av := [.int 1]) zc6 rfl dX6_refusalOfLetters_29 lk_X6_53 rfl (by decide) (by decide) (by decide) rfl rfl h (fun r5 f5 h => ?_)
      exact k_iret (pc := 32) hX dX6_refusalOfLetters_32 rfl rfl h
  · replace h := h.2 c_7
    refine z_ldc (pc := 10) (v := -1000002) dX6_refusalOfLetters_10 co_X6_148 ?_
    exact k_iret (pc := 12) hX dX6_refusalOfLetters_12 rfl rfl h
set_option maxRecDepth 20000 in
theorem w_X6_refusalOfLetters_null {f : zF} {K : Int32 → zF → Prop}  (h : ci mX2_isThere [.ref 12] f (fun r1 f1 => ((¬ r1 = 0 → K (-1000001) f1) ∧ (r1 = 0 → K (-1000002) f1)))) : ci mX6_refusalOfLetters [.ref 0, .null] f K := by
  refine ci_of (by decide) (Nat.le_of_ble_eq_true rfl) (fun X hX => ?_)
  refine z_aload_n (pc := 0) dX6_refusalOfLetters_0 rfl ?_
  refine k_getr (pc := 1) (j := 3) zc6 dX6_refusalOfLetters_1 fl_X6_29 (by decide) rfl (by decide) rfl (k2 := 12) rfl ?_
  refine k_cVi (pc := 4) (av := []) zc2 rfl dX6_refusalOfLetters_4 lk_X6_145 rfl (by decide) (by decide) (by decide) rfl rfl h (fun r1 f1 h => ?_)
  refine z_if_ne (pc := 7) (t := 13) dX6_refusalOfLetters_7 (by decide) (fun c_7 => ?_) (fun c_7 => ?_)
  · replace h := h.1 c_7
    refine z_aload_nN (pc := 13) dX6_refusalOfLetters_13 rfl ?_
    refine z_ifnonnullN (pc := 14) dX6_refusalOfLetters_14 ?_
    refine z_ldc (pc := 17) (v := -1000001) dX6_refusalOfLetters_17 co_X6_52 ?_
    exact k_iret (pc := 19) hX dX6_refusalOfLetters_19 rfl rfl h
  · replace h := h.2 c_7
    refine z_ldc (pc := 10) (v := -1000002) dX6_refusalOfLetters_10 co_X6_148 ?_
    exact k_iret (pc := 12) hX dX6_refusalOfLetters_12 rfl rfl h
set_option maxRecDepth 20000 in
theorem w_X6_restore {f : zF} {K : Int32 → zF → Prop} {p1 : Int32} (h : cq mX6_imageOf [.ref 0, .int p1] f (fun r1 f1 => (r1 = none → K (-1000001) f1) ∧ (∀ k1, r1 = some k1 → (isPage k1 ∧ ci mX2_isThere [.ref k1] f1 (fun r2 f2 => ((¬ r2 = 0 → cv mX2_takeAll [.ref 12, .ref k1] f2 (fun f3 => cv mX0_forgetAll [.ref 18] f3 (fun f4 => K 1 f4))) ∧ (r2 = 0 → K (-1000002) f2))))))) : ci mX6_restore [.ref 0, .int p1] f K := by
  refine ci_of (by decide) (Nat.le_of_ble_eq_true rfl) (fun X hX => ?_)
  refine z_aload_n (pc := 0) dX6_restore_0 rfl ?_
  refine z_iload_n (pc := 1) dX6_restore_1 rfl ?_
  refine k_cVq (pc := 2) (av := [.int p1]) zc6 rfl dX6_restore_2 lk_X6_225 rfl (by decide) (by decide) (by decide) rfl rfl h (fun r1 f1 h => ?_)
  rcases r1 with _ | k1
  · replace h := h.1 rfl
    refine z_astore_nN (pc := 5) (lv' := [(2, .null), (0, .ref 0), (1, .int p1)]) dX6_restore_5 (Nat.le_of_ble_eq_true rfl) rfl ?_
    refine z_aload_nN (pc := 6) dX6_restore_6 rfl ?_
    refine z_ifnonnullN (pc := 7) dX6_restore_7 ?_
    refine z_ldc (pc := 10) (v := -1000001) dX6_restore_10 co_X6_52 ?_
    exact k_iret (pc := 12) hX dX6_restore_12 rfl rfl h
  · replace h := h.2 k1 rfl
    have hk1 := h.1
    replace h := h.2
    refine z_astore_n (pc := 5) (lv' := [(2, .ref k1), (0, .ref 0), (1, .int p1)]) dX6_restore_5 (Nat.le_of_ble_eq_true rfl) rfl ?_
    refine z_aload_n (pc := 6) dX6_restore_6 rfl ?_
    refine z_ifnonnull (pc := 7) (t := 13) dX6_restore_7 (by decide) ?_
    refine z_aload_n (pc := 13) dX6_restore_13 rfl ?_
    refine k_cVi (pc := 14) (av := []) zc2 rfl dX6_restore_14 lk_X6_145 rfl (by decide) (by decide) (pg_lt hk1) (pg_sh hk1) rfl h (fun r2 f2 h => ?_)
    refine z_if_ne (pc := 17) (t := 23) dX6_restore_17 (by decide) (fun c_17 => ?_) (fun c_17 => ?_)
    · replace h := h.1 c_17
      refine z_aload_n (pc := 23) dX6_restore_23 rfl ?_
      refine k_getr (pc := 24) (j := 3) zc6 dX6_restore_24 fl_X6_29 (by decide) rfl (by decide) rfl (k2 := 12) rfl ?_
      refine z_aload_n (pc := 27) dX6_restore_27 rfl ?_
      refine k_cVv (pc := 28) (av := [.ref k1]) zc2 rfl dX6_restore_28 lk_X6_114 rfl (by decide) (by decide) (by decide) rfl rfl h (fun f3 h => ?_)
      refine z_aload_n (pc := 31) dX6_restore_31 rfl ?_
      refine k_getr (pc := 32) (j := 4) zc6 dX6_restore_32 fl_X6_36 (by decide) rfl (by decide) rfl (k2 := 18) rfl ?_
      refine k_cVv (pc := 35) (av := []) zc0 rfl dX6_restore_35 lk_X6_118 rfl (by decide) (by decide) (by decide) rfl rfl h (fun f4 h => ?_)
      refine z_iconst (pc := 38) (v := 1) dX6_restore_38 ic_1 ?_
      exact k_iret (pc := 39) hX dX6_restore_39 rfl rfl h
    · replace h := h.2 c_17
      refine z_ldc (pc := 20) (v := -1000002) dX6_restore_20 co_X6_148 ?_
      exact k_iret (pc := 22) hX dX6_restore_22 rfl rfl h
set_option maxRecDepth 20000 in
theorem w_X6_turn {f : zF} {K : Int32 → zF → Prop}  (h : ci mX2_isThere [.ref 12] f (fun r1 f1 => ((¬ r1 = 0 → cv mX0_keep [.ref 18, .int (-1), .int 0, .int 0] f1 (fun f2 => cv mX2_turnOver [.ref 12] f2 (fun f3 => K (f3 12 2) f3))) ∧ (r1 = 0 → K (-1000002) f1)))) : ci mX6_turn [.ref 0] f K := by
  refine ci_of (by decide) (Nat.le_of_ble_eq_true rfl) (fun X hX => ?_)
  refine z_aload_n (pc := 0) dX6_turn_0 rfl ?_
  refine k_getr (pc := 1) (j := 3) zc6 dX6_turn_1 fl_X6_29 (by decide) rfl (by decide) rfl (k2 := 12) rfl ?_
  refine k_cVi (pc := 4) (av := []) zc2 rfl dX6_turn_4 lk_X6_145 rfl (by decide) (by decide) (by decide) rfl rfl h (fun r1 f1 h => ?_)
  refine z_if_ne (pc := 7) (t := 13) dX6_turn_7 (by decide) (fun c_7 => ?_) (fun c_7 => ?_)
  · replace h := h.1 c_7
    refine z_aload_n (pc := 13) dX6_turn_13 rfl ?_
    refine k_getr (pc := 14) (j := 4) zc6 dX6_turn_14 fl_X6_36 (by decide) rfl (by decide) rfl (k2 := 18) rfl ?_
    refine z_iconst (pc := 17) (v := -1) dX6_turn_17 ic_m1 ?_
    refine z_iconst (pc := 18) (v := 0) dX6_turn_18 ic_0 ?_
    refine z_iconst (pc := 19) (v := 0) dX6_turn_19 ic_0 ?_
    refine k_cVv (pc := 20) (av := [.int (-1), .int 0, .int 0]) zc0 rfl dX6_turn_20 lk_X6_138 rfl (by decide) (by decide) (by decide) rfl rfl h (fun f2 h => ?_)
    refine z_aload_n (pc := 23) dX6_turn_23 rfl ?_
    refine k_getr (pc := 24) (j := 3) zc6 dX6_turn_24 fl_X6_29 (by decide) rfl (by decide) rfl (k2 := 12) rfl ?_
    refine k_cVv (pc := 27) (av := []) zc2 rfl dX6_turn_27 lk_X6_149 rfl (by decide) (by decide) (by decide) rfl rfl h (fun f3 h => ?_)
    refine z_aload_n (pc := 30) dX6_turn_30 rfl ?_
    refine k_getr (pc := 31) (j := 3) zc6 dX6_turn_31 fl_X6_29 (by decide) rfl (by decide) rfl (k2 := 12) rfl ?_
    refine k_geti (pc := 34) (j := 2) zc2 dX6_turn_34 fl_X6_121 (by decide) rfl (by decide) rfl (v := (f3 12 2)) rfl ?_
    exact k_iret (pc := 37) hX dX6_turn_37 rfl rfl h
  · replace h := h.2 c_7
    refine z_ldc (pc := 10) (v := -1000002) dX6_turn_10 co_X6_148 ?_
    exact k_iret (pc := 12) hX dX6_turn_12 rfl rfl h
set_option maxRecDepth 20000 in
theorem w_X6_undo {f : zF} {K : Int32 → zF → Prop}  (h : ((¬ (f 18 4) = 0 → ci mX0_latestSide [.ref 18] f (fun r1 f1 => ((¬ r1 = (-1) → ci mX0_latestSide [.ref 18] f1 (fun r2 f2 => ci mX0_latestPlace [.ref 18] f2 (fun r3 f3 => ci mX0_latestLetter [.ref 18] f3 (fun r4 f4 => cv mX2_putLetter [.ref 12, .int r2, .int r3, .int r4] f4 (fun f5 => cv mX0_forgetLatest [.ref 18] f5 (fun f6 => K (f6 18 4) f6)))))) ∧ (r1 = (-1) → cv mX2_turnOver [.ref 12] f1 (fun f7 => cv mX0_forgetLatest [.ref 18] f7 (fun f8 => K (f8 18 4) f8)))))) ∧ ((f 18 4) = 0 → K (-1000002) f))) : ci mX6_undo [.ref 0] f K := by
  refine ci_of (by decide) (Nat.le_of_ble_eq_true rfl) (fun X hX => ?_)
  refine z_aload_n (pc := 0) dX6_undo_0 rfl ?_
  refine k_getr (pc := 1) (j := 4) zc6 dX6_undo_1 fl_X6_36 (by decide) rfl (by decide) rfl (k2 := 18) rfl ?_
  refine k_geti (pc := 4) (j := 4) zc0 dX6_undo_4 fl_X6_152 (by decide) rfl (by decide) rfl (v := (f 18 4)) rfl ?_
  refine z_if_ne (pc := 7) (t := 13) dX6_undo_7 (by decide) (fun c_7 => ?_) (fun c_7 => ?_)
  · replace h := h.1 c_7
    refine z_aload_n (pc := 13) dX6_undo_13 rfl ?_
    refine k_getr (pc := 14) (j := 4) zc6 dX6_undo_14 fl_X6_36 (by decide) rfl (by decide) rfl (k2 := 18) rfl ?_
    refine k_cVi (pc := 17) (av := []) zc0 rfl dX6_undo_17 lk_X6_155 rfl (by decide) (by decide) (by decide) rfl rfl h (fun r1 f1 h => ?_)
    refine z_iconst (pc := 20) (v := -1) dX6_undo_20 ic_m1 ?_
    refine z_icmp_ne (pc := 21) (t := 34) dX6_undo_21 (by decide) (fun c_21 => ?_) (fun c_21 => ?_)
    · replace h := h.1 c_21
      refine z_aload_n (pc := 34) dX6_undo_34 rfl ?_
      refine k_getr (pc := 35) (j := 3) zc6 dX6_undo_35 fl_X6_29 (by decide) rfl (by decide) rfl (k2 := 12) rfl ?_
      refine z_aload_n (pc := 38) dX6_undo_38 rfl ?_
      refine k_getr (pc := 39) (j := 4) zc6 dX6_undo_39 fl_X6_36 (by decide) rfl (by decide) rfl (k2 := 18) rfl ?_
      refine k_cVi (pc := 42) (av := []) zc0 rfl dX6_undo_42 lk_X6_155 rfl (by decide) (by decide) (by decide) rfl rfl h (fun r2 f2 h => ?_)
      refine z_aload_n (pc := 45) dX6_undo_45 rfl ?_
      refine k_getr (pc := 46) (j := 4) zc6 dX6_undo_46 fl_X6_36 (by decide) rfl (by decide) rfl (k2 := 18) rfl ?_
      refine k_cVi (pc := 49) (av := []) zc0 rfl dX6_undo_49 lk_X6_159 rfl (by decide) (by decide) (by decide) rfl rfl h (fun r3 f3 h => ?_)
      refine z_aload_n (pc := 52) dX6_undo_52 rfl ?_
      refine k_getr (pc := 53) (j := 4) zc6 dX6_undo_53 fl_X6_36 (by decide) rfl (by decide) rfl (k2 := 18) rfl ?_
      refine k_cVi (pc := 56) (av := []) zc0 rfl dX6_undo_56 lk_X6_162 rfl (by decide) (by decide) (by decide) rfl rfl h (fun r4 f4 h => ?_)
      refine k_cVv (pc := 59) (av := [.int r2, .int r3, .int r4]) zc2 rfl dX6_undo_59 lk_X6_142 rfl (by decide) (by decide) (by decide) rfl rfl h (fun f5 h => ?_)
      refine z_aload_n (pc := 62) dX6_undo_62 rfl ?_
      refine k_getr (pc := 63) (j := 4) zc6 dX6_undo_63 fl_X6_36 (by decide) rfl (by decide) rfl (k2 := 18) rfl ?_
      refine k_cVv (pc := 66) (av := []) zc0 rfl dX6_undo_66 lk_X6_165 rfl (by decide) (by decide) (by decide) rfl rfl h (fun f6 h => ?_)
      refine z_aload_n (pc := 69) dX6_undo_69 rfl ?_
      refine k_getr (pc := 70) (j := 4) zc6 dX6_undo_70 fl_X6_36 (by decide) rfl (by decide) rfl (k2 := 18) rfl ?_
      refine k_geti (pc := 73) (j := 4) zc0 dX6_undo_73 fl_X6_152 (by decide) rfl (by decide) rfl (v := (f6 18 4)) rfl ?_
      exact k_iret (pc := 76) hX dX6_undo_76 rfl rfl h
    · replace h := h.2 c_21
      refine z_aload_n (pc := 24) dX6_undo_24 rfl ?_
      refine k_getr (pc := 25) (j := 3) zc6 dX6_undo_25 fl_X6_29 (by decide) rfl (by decide) rfl (k2 := 12) rfl ?_
      refine k_cVv (pc := 28) (av := []) zc2 rfl dX6_undo_28 lk_X6_149 rfl (by decide) (by decide) (by decide) rfl rfl h (fun f7 h => ?_)
      refine z_goto (pc := 31) (t := 62) dX6_undo_31 (by decide) ?_
      refine z_aload_n (pc := 62) dX6_undo_62 rfl ?_
      refine k_getr (pc := 63) (j := 4) zc6 dX6_undo_63 fl_X6_36 (by decide) rfl (by decide) rfl (k2 := 18) rfl ?_
      refine k_cVv (pc := 66) (av := []) zc0 rfl dX6_undo_66 lk_X6_165 rfl (by decide) (by decide) (by decide) rfl rfl h (fun f8 h => ?_)
      refine z_aload_n (pc := 69) dX6_undo_69 rfl ?_
      refine k_getr (pc := 70) (j := 4) zc6 dX6_undo_70 fl_X6_36 (by decide) rfl (by decide) rfl (k2 := 18) rfl ?_
      refine k_geti (pc := 73) (j := 4) zc0 dX6_undo_73 fl_X6_152 (by decide) rfl (by decide) rfl (v := (f8 18 4)) rfl ?_
      exact k_iret (pc := 76) hX dX6_undo_76 rfl rfl h
  · replace h := h.2 c_7
    refine z_ldc (pc := 10) (v := -1000002) dX6_undo_10 co_X6_148 ?_
    exact k_iret (pc := 12) hX dX6_undo_12 rfl rfl h
set_option maxRecDepth 20000 in
theorem w_X7_anewAt {f : zF} {K : Int32 → zF → Prop} {p1 : Int32} {p2 : Int32} (h : ∀ X, kR X (zRi K) → Z X mX7_anewAt 5 [(0, .ref 52), (1, .int p1), (2, .int p2), (3, .int 3), (4, .int 0)] [] (zC f)) : ci mX7_anewAt [.ref 52, .int p1, .int p2] f K := by
  refine ci_of (by decide) (Nat.le_of_ble_eq_true rfl) (fun X hX => ?_)
  replace h := h X hX
  refine z_iconst (pc := 0) (v := 3) dX7_anewAt_0 ic_3 ?_
  refine z_istore_n (pc := 1) (lv' := [(3, .int 3), (0, .ref 52), (1, .int p1), (2, .int p2)]) dX7_anewAt_1 (Nat.le_of_ble_eq_true rfl) rfl ?_
  refine z_iconst (pc := 2) (v := 0) dX7_anewAt_2 ic_0 ?_
  refine z_istore (pc := 3) (lv' := [(4, .int 0), (3, .int 3), (0, .ref 52), (1, .int p1), (2, .int p2)]) dX7_anewAt_3 (Nat.le_of_ble_eq_true rfl) rfl ?_
  exact z_sub [2, 3, 4, 1, 0] rfl h
set_option maxRecDepth 20000 in
theorem l_X7_anewAt_5 {X : zX} {f : zF} {K : Int32 → zF → Prop}  {x1 x2 x3 x4 : Int32}  (hX : kR X (zRi K)) (h : (((f 56 1) ≤ x4 → K x3 f) ∧ (¬ (f 56 1) ≤ x4 → Z X mX7_anewAt 19 [(0, .ref 52), (1, .int x1), (2, .int x2), (3, .int x3), (4, .int x4), (5, .int 0)] [] (zC f)))) : Z X mX7_anewAt 5 [(0, .ref 52), (1, .int x1), (2, .int x2), (3, .int x3), (4, .int x4)] [] (zC f) := by
  refine z_iload (pc := 5) dX7_anewAt_5 rfl ?_
  refine z_aload_n (pc := 7) dX7_anewAt_7 rfl ?_
  refine k_getr (pc := 8) (j := 5) zc7 dX7_anewAt_8 fl_X7_19 (by decide) rfl (by decide) rfl (k2 := 56) rfl ?_
  refine z_iconst (pc := 11) (v := 1) dX7_anewAt_11 ic_1 ?_
  refine k_iald (pc := 12) (j := 1) (v := (f 56 1)) dX7_anewAt_12 (by decide) rfl (by unfold vp_in; decide) (by decide) rfl ?_
  refine z_icmp_ge (pc := 13) (t := 102) dX7_anewAt_13 (by decide) (fun c_13 => ?_) (fun c_13 => ?_)
  · replace h := h.1 c_13
    refine z_iload_n (pc := 102) dX7_anewAt_102 rfl ?_
    exact k_iret (pc := 103) hX dX7_anewAt_103 rfl rfl h
  · replace h := h.2 c_13
    refine z_iconst (pc := 16) (v := 0) dX7_anewAt_16 ic_0 ?_
    refine z_istore (pc := 17) (lv' := [(5, .int 0), (0, .ref 52), (1, .int x1), (2, .int x2), (3, .int x3), (4, .int x4)]) dX7_anewAt_17 (Nat.le_of_ble_eq_true rfl) rfl ?_
    exact z_sub [1, 2, 3, 4, 5, 0] rfl h
set_option maxRecDepth 20000 in
theorem l_X7_anewAt_19 {X : zX} {f : zF} {K : Int32 → zF → Prop}  {x1 x2 x3 x4 x5 : Int32}  (hX : kR X (zRi K)) (h : (((f 56 1) ≤ x5 → Z X mX7_anewAt 5 [(0, .ref 52), (1, .int x1), (2, .int x2), (3, .int x3), (4, .int (x4 + 1))] [] (zC f)) ∧ (¬ (f 56 1) ≤ x5 → ci mX7_on [.ref 52, .int 0, .int x1] f (fun r201 f201 => (∀ z202 : Int32, z202 = (if x4 = r201 then 0 else 1) → ci mX7_behindOf [.ref 52, .int 0, .int x1] f201 (fun r203 f203 => (∀ z204 : Int32, z204 = (if x5 = r203 then 0 else 1) → ((x3 ≤ (z202 + z204) → Z X mX7_anewAt 19 [(0, .ref 52), (1, .int x1), (2, .int x2), (3, .int x3), (4, .int x4), (5, .int (x5 + 1))] [] (zC f203)) ∧ (¬ x3 ≤ (z202 + z204) → ci mX7_readBy [.ref 52, .int x4, .int x5] f203 (fun r205 f205 => (∀ z206 : Int32, z206 = (if r205 = x2 then (z202 + z204) else x3) → Z X mX7_anewAt 19 [(0, .ref 52), (1, .int x1), (2, .int x2), (3, .int z206), (4, .int x4), (5, .int (x5 + 1))] [] (zC f205)))))))))))) : Z X mX7_anewAt 19 [(0, .ref 52), (1, .int x1), (2, .int x2), (3, .int x3), (4, .int x4), (5, .int x5)] [] (zC f) := by
  refine z_iload (pc := 19) dX7_anewAt_19 rfl ?_
  refine z_aload_n (pc := 21) dX7_anewAt_21 rfl ?_
  refine k_getr (pc := 22) (j := 5) zc7 dX7_anewAt_22 fl_X7_19 (by decide) rfl (by decide) rfl (k2 := 56) rfl ?_
  refine z_iconst (pc := 25) (v := 1) dX7_anewAt_25 ic_1 ?_
  refine k_iald (pc := 26) (j := 1) (v := (f 56 1)) dX7_anewAt_26 (by decide) rfl (by unfold vp_in; decide) (by decide) rfl ?_
  refine z_icmp_ge (pc := 27) (t := 96) dX7_anewAt_27 (by decide) (fun c_27 => ?_) (fun c_27 => ?_)
  · replace h := h.1 c_27
    refine z_iinc (pc := 96) (v := (x4 + 1)) (lv' := [(4, .int (x4 + 1)), (0, .ref 52), (1, .int x1), (2, .int x2), (3, .int x3), (5, .int x5)]) dX7_anewAt_96 rfl (congrArg (fun z => x4 + z) ic_1) (Nat.le_of_ble_eq_true rfl) rfl ?_
    refine z_goto (pc := 99) (t := 5) dX7_anewAt_99 (by decide) ?_
    exact z_sub [1, 2, 3, 4, 0] rfl h
  · replace h := h.2 c_27
    refine z_iload (pc := 30) dX7_anewAt_30 rfl ?_
    refine z_aload_n (pc := 32) dX7_anewAt_32 rfl ?_
    refine z_iconst (pc := 33) (v := 0) dX7_anewAt_33 ic_0 ?_
    refine z_iload_n (pc := 34) dX7_anewAt_34 rfl ?_
    refine k_cVi (pc := 35) (av := [.int 0, .int x1]) zc7 rfl dX7_anewAt_35 lk_X7_170 rfl (by decide) (by decide) (by decide) rfl rfl h (fun r201 f201 h => ?_)
    suffices hm209 : Z X mX7_anewAt 46 [(0, .ref 52), (1, .int x1), (2, .int x2), (3, .int x3), (4, .int x4), (5, .int x5)] [.int (if x4 = r201 then 0 else 1)] (zC f201) by
      refine z_icmp_ne (pc := 38) (t := 45) dX7_anewAt_38 (by decide) (fun c_38 => ?_) (fun c_38 => ?_)
      · rw [if_neg c_38] at hm209
        refine z_iconst (pc := 45) (v := 1) dX7_anewAt_45 ic_1 ?_
        exact hm209
      · rw [if_pos c_38] at hm209
        refine z_iconst (pc := 41) (v := 0) dX7_anewAt_41 ic_0 ?_
        refine z_goto (pc := 42) (t := 46) dX7_anewAt_42 (by decide) ?_
        exact hm209
    refine z_name (fun z202 e_z202 => ?_)
    replace h := h z202 e_z202
    refine z_iload (pc := 46) dX7_anewAt_46 rfl ?_
    refine z_aload_n (pc := 48) dX7_anewAt_48 rfl ?_
    refine z_iconst (pc := 49) (v := 0) dX7_anewAt_49 ic_0 ?_
    refine z_iload_n (pc := 50) dX7_anewAt_50 rfl ?_
    refine k_cVi (pc := 51) (av := [.int 0, .int x1]) zc7 rfl dX7_anewAt_51 lk_X7_216 rfl (by decide) (by decide) (by decide) rfl rfl h (fun r203 f203 h => ?_)
    suffices hm208 : Z X mX7_anewAt 62 [(0, .ref 52), (1, .int x1), (2, .int x2), (3, .int x3), (4, .int x4), (5, .int x5)] [.int (if x5 = r203 then 0 else 1), .int z202] (zC f203) by
      refine z_icmp_ne (pc := 54) (t := 61) dX7_anewAt_54 (by decide) (fun c_54 => ?_) (fun c_54 => ?_)
      · rw [if_neg c_54] at hm208
        refine z_iconst (pc := 61) (v := 1) dX7_anewAt_61 ic_1 ?_
        exact hm208
      · rw [if_pos c_54] at hm208
        refine z_iconst (pc := 57) (v := 0) dX7_anewAt_57 ic_0 ?_
        refine z_goto (pc := 58) (t := 62) dX7_anewAt_58 (by decide) ?_
        exact hm208
    refine z_name (fun z204 e_z204 => ?_)
    replace h := h z204 e_z204
    refine z_iadd (pc := 62) dX7_anewAt_62 ?_
    refine z_istore (pc := 63) (lv' := [(6, .int (z202 + z204)), (0, .ref 52), (1, .int x1), (2, .int x2), (3, .int x3), (4, .int x4), (5, .int x5)]) dX7_anewAt_63 (Nat.le_of_ble_eq_true rfl) rfl ?_
    refine z_iload (pc := 65) dX7_anewAt_65 rfl ?_
    refine z_iload_n (pc := 67) dX7_anewAt_67 rfl ?_
    refine z_icmp_ge (pc := 68) (t := 88) dX7_anewAt_68 (by decide) (fun c_68 => ?_) (fun c_68 => ?_)
    · replace h := h.1 c_68
      refine z_iload_n (pc := 88) dX7_anewAt_88 rfl ?_
      refine z_istore_n (pc := 89) (lv' := [(3, .int x3), (6, .int (z202 + z204)), (0, .ref 52), (1, .int x1), (2, .int x2), (4, .int x4), (5, .int x5)]) dX7_anewAt_89 (Nat.le_of_ble_eq_true rfl) rfl ?_
      refine z_iinc (pc := 90) (v := (x5 + 1)) (lv' := [(5, .int (x5 + 1)), (3, .int x3), (6, .int (z202 + z204)), (0, .ref 52), (1, .int x1), (2, .int x2), (4, .int x4)]) dX7_anewAt_90 rfl (congrArg (fun z => x5 + z) ic_1) (Nat.le_of_ble_eq_true rfl) rfl ?_
      refine z_goto (pc := 93) (t := 19) dX7_anewAt_93 (by decide) ?_
      exact z_sub [3, 4, 5, 1, 6, 0] rfl h
    · replace h := h.2 c_68
      refine z_aload_n (pc := 71) dX7_anewAt_71 rfl ?_
      refine z_iload (pc := 72) dX7_anewAt_72 rfl ?_
      refine z_iload (pc := 74) dX7_anewAt_74 rfl ?_
      refine k_cVi (pc := 76) (av := [.int x4, .int x5]) zc7 rfl dX7_anewAt_76 lk_X7_226 rfl (by decide) (by decide) (by decide) rfl rfl h (fun r205 f205 h => ?_)
      refine z_iload_n (pc := 79) dX7_anewAt_79 rfl ?_
      suffices hm207 : Z X mX7_anewAt 89 [(6, .int (z202 + z204)), (0, .ref 52), (1, .int x1), (2, .int x2), (3, .int x3), (4, .int x4), (5, .int x5)] [.int (if r205 = x2 then (z202 + z204) else x3)] (zC f205) by
        refine z_icmp_ne (pc := 80) (t := 88) dX7_anewAt_80 (by decide) (fun c_80 => ?_) (fun c_80 => ?_)
        · rw [if_neg c_80] at hm207
          refine z_iload_n (pc := 88) dX7_anewAt_88 rfl ?_
          exact hm207
        · rw [if_pos c_80] at hm207
          refine z_iload (pc := 83) dX7_anewAt_83 rfl ?_
          refine z_goto (pc := 85) (t := 89) dX7_anewAt_85 (by decide) ?_
          exact hm207
      refine z_name (fun z206 e_z206 => ?_)
      replace h := h z206 e_z206
      refine z_istore_n (pc := 89) (lv' := [(3, .int z206), (6, .int (z202 + z204)), (0, .ref 52), (1, .int x1), (2, .int x2), (4, .int x4), (5, .int x5)]) dX7_anewAt_89 (Nat.le_of_ble_eq_true rfl) rfl ?_
      refine z_iinc (pc := 90) (v := (x5 + 1)) (lv' := [(5, .int (x5 + 1)), (3, .int z206), (6, .int (z202 + z204)), (0, .ref 52), (1, .int x1), (2, .int x2), (4, .int x4)]) dX7_anewAt_90 rfl (congrArg (fun z => x5 + z) ic_1) (Nat.le_of_ble_eq_true rfl) rfl ?_
      refine z_goto (pc := 93) (t := 19) dX7_anewAt_93 (by decide) ?_
      exact z_sub [3, 4, 5, 1, 6, 0] rfl h
set_option maxRecDepth 20000 in
theorem w_X7_barred {f : zF} {K : Int32 → zF → Prop} {p1 : Int32} {p2 : Int32} (h : ci mX7_isThere [.ref 52] f (fun r1 f1 => ((¬ r1 = 0 → ci mX7_isRow [.int p1] f1 (fun r2 f2 => ((r2 = 0 → K (-1000001) f2) ∧ (¬ r2 = 0 → ((¬ p2 = 0 → (vp_in p1 8 ∧ ((0 ≤ (f2 53 (Int32.toNatClampNeg p1)) → (vp_in p1 8 ∧ (((f2 56 2) ≤ (f2 54 (Int32.toNatClampNeg p1)) → ci mX7_hasLetters [.ref 52, .int p1] f2 (fun r3 f3 => ((¬ r3 = 0 → K 0 (zup f3 52 1 0)) ∧ (r3 = 0 → K (-1000001) f3)))) ∧ (¬ (f2 56 2) ≤ (f2 54 (Int32.toNatClampNeg p1)) → ci mX7_finding [.ref 52, .int 2] f2 (fun r4 f4 => K r4 f4))))) ∧ (¬ 0 ≤ (f2 53 (Int32.toNatClampNeg p1)) → ci mX7_finding [.ref 52, .int 1] f2 (fun r5 f5 => K r5 f5))))) ∧ (p2 = 0 → K (-1000001) f2)))))) ∧ (r1 = 0 → K (-1000002) f1)))) : ci mX7_barred [.ref 52, .int p1, .int p2] f K := by
  refine ci_of (by decide) (Nat.le_of_ble_eq_true rfl) (fun X hX => ?_)
  refine z_aload_n (pc := 0) dX7_barred_0 rfl ?_
  refine k_cVi (pc := 1) (av := []) zc7 rfl dX7_barred_1 lk_X7_209 rfl (by decide) (by decide) (by decide) rfl rfl h (fun r1 f1 h => ?_)
  refine z_if_ne (pc := 4) (t := 10) dX7_barred_4 (by decide) (fun c_4 => ?_) (fun c_4 => ?_)
  · replace h := h.1 c_4
    refine z_iload_n (pc := 10) dX7_barred_10 rfl ?_
    refine k_cSi (pc := 11) (av := [.int p1]) dX7_barred_11 lk_X7_55 rfl (by decide) (by decide) rfl h (fun r2 f2 h => ?_)
    refine z_if_eq (pc := 14) (t := 21) dX7_barred_14 (by decide) (fun c_14 => ?_) (fun c_14 => ?_)
    · replace h := h.1 c_14
      refine z_ldc (pc := 21) (v := -1000001) dX7_barred_21 co_X7_61 ?_
      exact k_iret (pc := 23) hX dX7_barred_23 rfl rfl h
    · replace h := h.2 c_14
      refine z_iload_n (pc := 17) dX7_barred_17 rfl ?_
      refine z_if_ne (pc := 18) (t := 24) dX7_barred_18 (by decide) (fun c_18 => ?_) (fun c_18 => ?_)
      · replace h := h.1 c_18
        refine z_aload_n (pc := 24) dX7_barred_24 rfl ?_
        refine k_getr (pc := 25) (j := 2) zc7 dX7_barred_25 fl_X7_7 (by decide) rfl (by decide) rfl (k2 := 53) rfl ?_
        refine z_iload_n (pc := 28) dX7_barred_28 rfl ?_
        refine k_iald (pc := 29) (j := (Int32.toNatClampNeg p1)) (v := (f2 53 (Int32.toNatClampNeg p1))) dX7_barred_29 (by decide) rfl h.1 rfl rfl ?_
        replace h := h.2
        refine z_if_ge (pc := 30) (t := 39) dX7_barred_30 (by decide) (fun c_30 => ?_) (fun c_30 => ?_)
        · replace h := h.1 c_30
          refine z_aload_n (pc := 39) dX7_barred_39 rfl ?_
          refine k_getr (pc := 40) (j := 5) zc7 dX7_barred_40 fl_X7_19 (by decide) rfl (by decide) rfl (k2 := 56) rfl ?_
          refine z_iconst (pc := 43) (v := 2) dX7_barred_43 ic_2 ?_
          refine k_iald (pc := 44) (j := 2) (v := (f2 56 2)) dX7_barred_44 (by decide) rfl (by unfold vp_in; decide) (by decide) rfl ?_
          refine z_aload_n (pc := 45) dX7_barred_45 rfl ?_
          refine k_getr (pc := 46) (j := 3) zc7 dX7_barred_46 fl_X7_13 (by decide) rfl (by decide) rfl (k2 := 54) rfl ?_
          refine z_iload_n (pc := 49) dX7_barred_49 rfl ?_
          refine k_iald (pc := 50) (j := (Int32.toNatClampNeg p1)) (v := (f2 54 (Int32.toNatClampNeg p1))) dX7_barred_50 (by decide) rfl h.1 rfl rfl ?_
          replace h := h.2
          refine z_icmp_le (pc := 51) (t := 60) dX7_barred_51 (by decide) (fun c_51 => ?_) (fun c_51 => ?_)
          · replace h := h.1 c_51
            refine z_aload_n (pc := 60) dX7_barred_60 rfl ?_
            refine z_iload_n (pc := 61) dX7_barred_61 rfl ?_
            refine k_cVi (pc := 62) (av := [.int p1]) zc7 rfl dX7_barred_62 lk_X7_223 rfl (by decide) (by decide) (by decide) rfl rfl h (fun r3 f3 h => ?_)
            refine z_if_ne (pc := 65) (t := 71) dX7_barred_65 (by decide) (fun c_65 => ?_) (fun c_65 => ?_)
            · replace h := h.1 c_65
              refine z_aload_n (pc := 71) dX7_barred_71 rfl ?_
              refine z_iconst (pc := 72) (v := 0) dX7_barred_72 ic_0 ?_
              refine k_puti (pc := 73) (j := 1) zc7 dX7_barred_73 fl_X7_45 (by decide) rfl rfl rfl (by decide) rfl ?_
              refine z_iconst (pc := 76) (v := 0) dX7_barred_76 ic_0 ?_
              exact k_iret (pc := 77) hX dX7_barred_77 rfl rfl h
            · replace h := h.2 c_65
              refine z_ldc (pc := 68) (v := -1000001) dX7_barred_68 co_X7_61 ?_
              exact k_iret (pc := 70) hX dX7_barred_70 rfl rfl h
          · replace h := h.2 c_51
            refine z_aload_n (pc := 54) dX7_barred_54 rfl ?_
            refine z_iconst (pc := 55) (v := 2) dX7_barred_55 ic_2 ?_
            refine k_cVi (pc := 56) (av := [.int 2]) zc7 rfl dX7_barred_56 lk_X7_62 rfl (by decide) (by decide) (by decide) rfl rfl h (fun r4 f4 h => ?_)
            exact k_iret (pc := 59) hX dX7_barred_59 rfl rfl h
        · replace h := h.2 c_30
          refine z_aload_n (pc := 33) dX7_barred_33 rfl ?_
          refine z_iconst (pc := 34) (v := 1) dX7_barred_34 ic_1 ?_
          refine k_cVi (pc := 35) (av := [.int 1]) zc7 rfl dX7_barred_35 lk_X7_62 rfl (by decide) (by decide) (by decide) rfl rfl h (fun r5 f5 h => ?_)
          exact k_iret (pc := 38) hX dX7_barred_38 rfl rfl h
      · replace h := h.2 c_18
        refine z_ldc (pc := 21) (v := -1000001) dX7_barred_21 co_X7_61 ?_
        exact k_iret (pc := 23) hX dX7_barred_23 rfl rfl h
  · replace h := h.2 c_4
    refine z_ldc (pc := 7) (v := -1000002) dX7_barred_7 co_X7_213 ?_
    exact k_iret (pc := 9) hX dX7_barred_9 rfl rfl h
set_option maxRecDepth 20000 in
theorem w_X7_behindBy {f : zF} {K : Int32 → zF → Prop} {p1 : Int32} {p2 : Int32} (h : ∀ X, kR X (zRi K) → Z X mX7_behindBy 5 [(0, .ref 52), (1, .int p1), (2, .int p2), (3, .int 0), (4, .int 0)] [] (zC f)) : ci mX7_behindBy [.ref 52, .int p1, .int p2] f K := by
  refine ci_of (by decide) (Nat.le_of_ble_eq_true rfl) (fun X hX => ?_)
  replace h := h X hX
  refine z_iconst (pc := 0) (v := 0) dX7_behindBy_0 ic_0 ?_
  refine z_istore_n (pc := 1) (lv' := [(3, .int 0), (0, .ref 52), (1, .int p1), (2, .int p2)]) dX7_behindBy_1 (Nat.le_of_ble_eq_true rfl) rfl ?_
  refine z_iconst (pc := 2) (v := 0) dX7_behindBy_2 ic_0 ?_
  refine z_istore (pc := 3) (lv' := [(4, .int 0), (3, .int 0), (0, .ref 52), (1, .int p1), (2, .int p2)]) dX7_behindBy_3 (Nat.le_of_ble_eq_true rfl) rfl ?_
  exact z_sub [2, 3, 4, 1, 0] rfl h
set_option maxRecDepth 20000 in
theorem l_X7_behindBy_5 {X : zX} {f : zF} {K : Int32 → zF → Prop}  {x1 x2 x3 x4 : Int32}  (hX : kR X (zRi K)) (h : (((f 56 1) ≤ x4 → K x3 f) ∧ (¬ (f 56 1) ≤ x4 → ci mX7_readBy [.ref 52, .int x1, .int x4] f (fun r101 f101 => (∀ z102 : Int32, z102 = (if r101 = x2 then (1 <<< (x4 &&& 31)) else 0) → Z X mX7_behindBy 5 [(0, .ref 52), (1, .int x1), (2, .int x2), (3, .int (x3 ||| z102)), (4, .int (x4 + 1))] [] (zC f101)))))) : Z X mX7_behindBy 5 [(0, .ref 52), (1, .int x1), (2, .int x2), (3, .int x3), (4, .int x4)] [] (zC f) := by
  refine z_iload (pc := 5) dX7_behindBy_5 rfl ?_
  refine z_aload_n (pc := 7) dX7_behindBy_7 rfl ?_
  refine k_getr (pc := 8) (j := 5) zc7 dX7_behindBy_8 fl_X7_19 (by decide) rfl (by decide) rfl (k2 := 56) rfl ?_
  refine z_iconst (pc := 11) (v := 1) dX7_behindBy_11 ic_1 ?_
  refine k_iald (pc := 12) (j := 1) (v := (f 56 1)) dX7_behindBy_12 (by decide) rfl (by unfold vp_in; decide) (by decide) rfl ?_
  refine z_icmp_ge (pc := 13) (t := 44) dX7_behindBy_13 (by decide) (fun c_13 => ?_) (fun c_13 => ?_)
  · replace h := h.1 c_13
    refine z_iload_n (pc := 44) dX7_behindBy_44 rfl ?_
    exact k_iret (pc := 45) hX dX7_behindBy_45 rfl rfl h
  · replace h := h.2 c_13
    refine z_iload_n (pc := 16) dX7_behindBy_16 rfl ?_
    refine z_aload_n (pc := 17) dX7_behindBy_17 rfl ?_
    refine z_iload_n (pc := 18) dX7_behindBy_18 rfl ?_
    refine z_iload (pc := 19) dX7_behindBy_19 rfl ?_
    refine k_cVi (pc := 21) (av := [.int x1, .int x4]) zc7 rfl dX7_behindBy_21 lk_X7_226 rfl (by decide) (by decide) (by decide) rfl rfl h (fun r101 f101 h => ?_)
    refine z_iload_n (pc := 24) dX7_behindBy_24 rfl ?_
    suffices hm103 : Z X mX7_behindBy 36 [(0, .ref 52), (1, .int x1), (2, .int x2), (3, .int x3), (4, .int x4)] [.int (if r101 = x2 then (1 <<< (x4 &&& 31)) else 0), .int x3] (zC f101) by
      refine z_icmp_ne (pc := 25) (t := 35) dX7_behindBy_25 (by decide) (fun c_25 => ?_) (fun c_25 => ?_)
      · rw [if_neg c_25] at hm103
        refine z_iconst (pc := 35) (v := 0) dX7_behindBy_35 ic_0 ?_
        exact hm103
      · rw [if_pos c_25] at hm103
        refine z_iconst (pc := 28) (v := 1) dX7_behindBy_28 ic_1 ?_
        refine z_iload (pc := 29) dX7_behindBy_29 rfl ?_
        refine z_ishl (pc := 31) dX7_behindBy_31 ?_
        refine z_goto (pc := 32) (t := 36) dX7_behindBy_32 (by decide) ?_
        exact hm103
    refine z_name (fun z102 e_z102 => ?_)
    replace h := h z102 e_z102
    refine z_ior (pc := 36) dX7_behindBy_36 ?_
    refine z_istore_n (pc := 37) (lv' := [(3, .int (x3 ||| z102)), (0, .ref 52), (1, .int x1), (2, .int x2), (4, .int x4)]) dX7_behindBy_37 (Nat.le_of_ble_eq_true rfl) rfl ?_
    refine z_iinc (pc := 38) (v := (x4 + 1)) (lv' := [(4, .int (x4 + 1)), (3, .int (x3 ||| z102)), (0, .ref 52), (1, .int x1), (2, .int x2)]) dX7_behindBy_38 rfl (congrArg (fun z => x4 + z) ic_1) (Nat.le_of_ble_eq_true rfl) rfl ?_
    refine z_goto (pc := 41) (t := 5) dX7_behindBy_41 (by decide) ?_
    exact z_sub [2, 3, 4, 1, 0] rfl h
set_option maxRecDepth 20000 in
theorem w_X7_count {f : zF} {K : Int32 → zF → Prop} {p1 : Int32} (h : ∀ X, kR X (zRi K) → ((p1 = 0 → Z X mX7_count 50 [(0, .ref 52), (1, .int p1), (2, .int 0), (3, .int 0)] [] (zC (zup f 52 0 0))) ∧ (p1 = 1 → K (f 56 1) (zup f 52 0 0)) ∧ (p1 = 2 → K (f 56 2) (zup f 52 0 0)) ∧ (p1 = 3 → Z X mX7_count 97 [(0, .ref 52), (1, .int p1), (2, .int 0), (3, .int 0)] [] (zC (zup f 52 0 0))) ∧ (p1 = 4 → K (f 52 8) (zup f 52 0 0)) ∧ (p1 = 5 → K (f 52 10) (zup f 52 0 0)) ∧ (¬ p1 = 0 → ¬ p1 = 1 → ¬ p1 = 2 → ¬ p1 = 3 → ¬ p1 = 4 → ¬ p1 = 5 → K (-1000001) (zup f 52 0 0)))) : ci mX7_count [.ref 52, .int p1] f K := by
  refine ci_of (by decide) (Nat.le_of_ble_eq_true rfl) (fun X hX => ?_)
  replace h := h X hX
  refine z_aload_n (pc := 0) dX7_count_0 rfl ?_
  refine z_iconst (pc := 1) (v := 0) dX7_count_1 ic_0 ?_
  refine k_puti (pc := 2) (j := 0) zc7 dX7_count_2 fl_X7_41 (by decide) rfl rfl rfl (by decide) rfl ?_
  refine z_iconst (pc := 5) (v := 0) dX7_count_5 ic_0 ?_
  refine z_istore_n (pc := 6) (lv' := [(2, .int 0), (0, .ref 52), (1, .int p1)]) dX7_count_6 (Nat.le_of_ble_eq_true rfl) rfl ?_
  refine z_iload_n (pc := 7) dX7_count_7 rfl ?_
  refine z_tsw6_0 (pc := 8) 48 81 88 95 148 153 158 dX7_count_8 rfl (by decide) (by decide) (fun c_8_0 => ?_) (fun c_8_1 => ?_) (fun c_8_2 => ?_) (fun c_8_3 => ?_) (fun c_8_4 => ?_) (fun c_8_5 => ?_) (fun c_8_0 c_8_1 c_8_2 c_8_3 c_8_4 c_8_5 => ?_)
  · replace h := h.1 c_8_0
    refine z_iconst (pc := 48) (v := 0) dX7_count_48 ic_0 ?_
    refine z_istore_n (pc := 49) (lv' := [(3, .int 0), (2, .int 0), (0, .ref 52), (1, .int p1)]) dX7_count_49 (Nat.le_of_ble_eq_true rfl) rfl ?_
    exact z_sub [2, 3, 1, 0] rfl h
  · replace h := h.2.1 c_8_1
    refine z_aload_n (pc := 81) dX7_count_81 rfl ?_
    refine k_getr (pc := 82) (j := 5) zc7 dX7_count_82 fl_X7_19 (by decide) rfl (by decide) rfl (k2 := 56) rfl ?_
    refine z_iconst (pc := 85) (v := 1) dX7_count_85 ic_1 ?_
    refine k_iald (pc := 86) (j := 1) (v := (f 56 1)) dX7_count_86 (by decide) rfl (by unfold vp_in; decide) (by decide) rfl ?_
    exact k_iret (pc := 87) hX dX7_count_87 rfl rfl h
  · replace h := h.2.2.1 c_8_2
    refine z_aload_n (pc := 88) dX7_count_88 rfl ?_
    refine k_getr (pc := 89) (j := 5) zc7 dX7_count_89 fl_X7_19 (by decide) rfl (by decide) rfl (k2 := 56) rfl ?_
    refine z_iconst (pc := 92) (v := 2) dX7_count_92 ic_2 ?_
    refine k_iald (pc := 93) (j := 2) (v := (f 56 2)) dX7_count_93 (by decide) rfl (by unfold vp_in; decide) (by decide) rfl ?_
    exact k_iret (pc := 94) hX dX7_count_94 rfl rfl h
  · replace h := h.2.2.2.1 c_8_3
    refine z_iconst (pc := 95) (v := 0) dX7_count_95 ic_0 ?_
    refine z_istore_n (pc := 96) (lv' := [(3, .int 0), (2, .int 0), (0, .ref 52), (1, .int p1)]) dX7_count_96 (Nat.le_of_ble_eq_true rfl) rfl ?_
    exact z_sub [2, 3, 1, 0] rfl h
  · replace h := h.2.2.2.2.1 c_8_4
    refine z_aload_n (pc := 148) dX7_count_148 rfl ?_
    refine k_geti (pc := 149) (j := 8) zc7 dX7_count_149 fl_X7_167 (by decide) rfl (by decide) rfl (v := (f 52 8)) rfl ?_
    exact k_iret (pc := 152) hX dX7_count_152 rfl rfl h
  · replace h := h.2.2.2.2.2.1 c_8_5
    refine z_aload_n (pc := 153) dX7_count_153 rfl ?_
    refine k_geti (pc := 154) (j := 10) zc7 dX7_count_154 fl_X7_68 (by decide) rfl (by decide) rfl (v := (f 52 10)) rfl ?_
    exact k_iret (pc := 157) hX dX7_count_157 rfl rfl h
  · replace h := h.2.2.2.2.2.2 c_8_0 c_8_1 c_8_2 c_8_3 c_8_4 c_8_5
    refine z_ldc (pc := 158) (v := -1000001) dX7_count_158 co_X7_61 ?_
    exact k_iret (pc := 160) hX dX7_count_160 rfl rfl h
set_option maxRecDepth 20000 in
theorem l_X7_count_50 {X : zX} {f : zF} {K : Int32 → zF → Prop}  {x1 x2 x3 : Int32}  (hX : kR X (zRi K)) (h : ((8 ≤ x3 → K x2 f) ∧ (¬ 8 ≤ x3 → (vp_in x3 8 ∧ (∀ z101 : Int32, z101 = (if (f 53 (Int32.toNatClampNeg x3)) < 0 then 0 else 1) → Z X mX7_count 50 [(0, .ref 52), (1, .int x1), (2, .int (x2 + z101)), (3, .int (x3 + 1))] [] (zC f)))))) : Z X mX7_count 50 [(0, .ref 52), (1, .int x1), (2, .int x2), (3, .int x3)] [] (zC f) := by
  refine z_iload_n (pc := 50) dX7_count_50 rfl ?_
  refine z_bipush (pc := 51) (v := 8) dX7_count_51 bi_8 ?_
  refine z_icmp_ge (pc := 53) (t := 79) dX7_count_53 (by decide) (fun c_53 => ?_) (fun c_53 => ?_)
  · replace h := h.1 c_53
    refine z_iload_n (pc := 79) dX7_count_79 rfl ?_
    exact k_iret (pc := 80) hX dX7_count_80 rfl rfl h
  · replace h := h.2 c_53
    refine z_iload_n (pc := 56) dX7_count_56 rfl ?_
    refine z_aload_n (pc := 57) dX7_count_57 rfl ?_
    refine k_getr (pc := 58) (j := 2) zc7 dX7_count_58 fl_X7_7 (by decide) rfl (by decide) rfl (k2 := 53) rfl ?_
    refine z_iload_n (pc := 61) dX7_count_61 rfl ?_
    refine k_iald (pc := 62) (j := (Int32.toNatClampNeg x3)) (v := (f 53 (Int32.toNatClampNeg x3))) dX7_count_62 (by decide) rfl h.1 rfl rfl ?_
    replace h := h.2
    suffices hm102 : Z X mX7_count 71 [(0, .ref 52), (1, .int x1), (2, .int x2), (3, .int x3)] [.int (if (f 53 (Int32.toNatClampNeg x3)) < 0 then 0 else 1), .int x2] (zC f) by
      refine z_if_lt (pc := 63) (t := 70) dX7_count_63 (by decide) (fun c_63 => ?_) (fun c_63 => ?_)
      · rw [if_pos c_63] at hm102
        refine z_iconst (pc := 70) (v := 0) dX7_count_70 ic_0 ?_
        exact hm102
      · rw [if_neg c_63] at hm102
        refine z_iconst (pc := 66) (v := 1) dX7_count_66 ic_1 ?_
        refine z_goto (pc := 67) (t := 71) dX7_count_67 (by decide) ?_
        exact hm102
    refine z_name (fun z101 e_z101 => ?_)
    replace h := h z101 e_z101
    refine z_iadd (pc := 71) dX7_count_71 ?_
    refine z_istore_n (pc := 72) (lv' := [(2, .int (x2 + z101)), (0, .ref 52), (1, .int x1), (3, .int x3)]) dX7_count_72 (Nat.le_of_ble_eq_true rfl) rfl ?_
    refine z_iinc (pc := 73) (v := (x3 + 1)) (lv' := [(3, .int (x3 + 1)), (2, .int (x2 + z101)), (0, .ref 52), (1, .int x1)]) dX7_count_73 rfl (congrArg (fun z => x3 + z) ic_1) (Nat.le_of_ble_eq_true rfl) rfl ?_
    refine z_goto (pc := 76) (t := 50) dX7_count_76 (by decide) ?_
    exact z_sub [2, 3, 1, 0] rfl h
set_option maxRecDepth 20000 in
theorem l_X7_count_97 {X : zX} {f : zF} {K : Int32 → zF → Prop}  {x1 x2 x3 : Int32}  (hX : kR X (zRi K)) (h : (((f 56 2) ≤ x3 → K x2 f) ∧ (¬ (f 56 2) ≤ x3 → ci mX7_on [.ref 52, .int 0, .int x3] f (fun r203 f203 => ci mX7_behindOf [.ref 52, .int 0, .int x3] f203 (fun r204 f204 => ci mX7_readBy [.ref 52, .int r203, .int r204] f204 (fun r205 f205 => ci mX7_on [.ref 52, .int 0, .int x3] f205 (fun r206 f206 => (∀ z207 : Int32, z207 = (if r205 = r206 then 1 else 0) → Z X mX7_count 97 [(0, .ref 52), (1, .int x1), (2, .int (x2 + z207)), (3, .int (x3 + 1))] [] (zC f206))))))))) : Z X mX7_count 97 [(0, .ref 52), (1, .int x1), (2, .int x2), (3, .int x3)] [] (zC f) := by
  refine z_iload_n (pc := 97) dX7_count_97 rfl ?_
  refine z_aload_n (pc := 98) dX7_count_98 rfl ?_
  refine k_getr (pc := 99) (j := 5) zc7 dX7_count_99 fl_X7_19 (by decide) rfl (by decide) rfl (k2 := 56) rfl ?_
  refine z_iconst (pc := 102) (v := 2) dX7_count_102 ic_2 ?_
  refine k_iald (pc := 103) (j := 2) (v := (f 56 2)) dX7_count_103 (by decide) rfl (by unfold vp_in; decide) (by decide) rfl ?_
  refine z_icmp_ge (pc := 104) (t := 146) dX7_count_104 (by decide) (fun c_104 => ?_) (fun c_104 => ?_)
  · replace h := h.1 c_104
    refine z_iload_n (pc := 146) dX7_count_146 rfl ?_
    exact k_iret (pc := 147) hX dX7_count_147 rfl rfl h
  · replace h := h.2 c_104
    refine z_iload_n (pc := 107) dX7_count_107 rfl ?_
    refine z_aload_n (pc := 108) dX7_count_108 rfl ?_
    refine z_aload_n (pc := 109) dX7_count_109 rfl ?_
    refine z_iconst (pc := 110) (v := 0) dX7_count_110 ic_0 ?_
    refine z_iload_n (pc := 111) dX7_count_111 rfl ?_
    refine k_cVi (pc := 112) (av := [.int 0, .int x3]) zc7 rfl dX7_count_112 lk_X7_170 rfl (by decide) (by decide) (by decide) rfl rfl h (fun r203 f203 h => ?_)
    refine z_aload_n (pc := 115) dX7_count_115 rfl ?_
    refine z_iconst (pc := 116) (v := 0) dX7_count_116 ic_0 ?_
    refine z_iload_n (pc := 117) dX7_count_117 rfl ?_
    refine k_cVi (pc := 118) (av := [.int 0, .int x3]) zc7 rfl dX7_count_118 lk_X7_216 rfl (by decide) (by decide) (by decide) rfl rfl h (fun r204 f204 h => ?_)
    refine k_cVi (pc := 121) (av := [.int r203, .int r204]) zc7 rfl dX7_count_121 lk_X7_226 rfl (by decide) (by decide) (by decide) rfl rfl h (fun r205 f205 h => ?_)
    refine z_aload_n (pc := 124) dX7_count_124 rfl ?_
    refine z_iconst (pc := 125) (v := 0) dX7_count_125 ic_0 ?_
    refine z_iload_n (pc := 126) dX7_count_126 rfl ?_
    refine k_cVi (pc := 127) (av := [.int 0, .int x3]) zc7 rfl dX7_count_127 lk_X7_170 rfl (by decide) (by decide) (by decide) rfl rfl h (fun r206 f206 h => ?_)
    suffices hm208 : Z X mX7_count 138 [(0, .ref 52), (1, .int x1), (2, .int x2), (3, .int x3)] [.int (if r205 = r206 then 1 else 0), .int x2] (zC f206) by
      refine z_icmp_ne (pc := 130) (t := 137) dX7_count_130 (by decide) (fun c_130 => ?_) (fun c_130 => ?_)
      · rw [if_neg c_130] at hm208
        refine z_iconst (pc := 137) (v := 0) dX7_count_137 ic_0 ?_
        exact hm208
      · rw [if_pos c_130] at hm208
        refine z_iconst (pc := 133) (v := 1) dX7_count_133 ic_1 ?_
        refine z_goto (pc := 134) (t := 138) dX7_count_134 (by decide) ?_
        exact hm208
    refine z_name (fun z207 e_z207 => ?_)
    replace h := h z207 e_z207
    refine z_iadd (pc := 138) dX7_count_138 ?_
    refine z_istore_n (pc := 139) (lv' := [(2, .int (x2 + z207)), (0, .ref 52), (1, .int x1), (3, .int x3)]) dX7_count_139 (Nat.le_of_ble_eq_true rfl) rfl ?_
    refine z_iinc (pc := 140) (v := (x3 + 1)) (lv' := [(3, .int (x3 + 1)), (2, .int (x2 + z207)), (0, .ref 52), (1, .int x1)]) dX7_count_140 rfl (congrArg (fun z => x3 + z) ic_1) (Nat.le_of_ble_eq_true rfl) rfl ?_
    refine z_goto (pc := 143) (t := 97) dX7_count_143 (by decide) ?_
    exact z_sub [2, 3, 1, 0] rfl h
set_option maxRecDepth 20000 in
theorem w_X7_harmOf {f : zF} {K : Int32 → zF → Prop} {p1 : Int32} (h : ∀ X, kR X (zRi K) → Z X mX7_harmOf 4 [(0, .ref 52), (1, .int p1), (2, .int 0), (3, .int 0)] [] (zC f)) : ci mX7_harmOf [.ref 52, .int p1] f K := by
  refine ci_of (by decide) (Nat.le_of_ble_eq_true rfl) (fun X hX => ?_)
  replace h := h X hX
  refine z_iconst (pc := 0) (v := 0) dX7_harmOf_0 ic_0 ?_
  refine z_istore_n (pc := 1) (lv' := [(2, .int 0), (0, .ref 52), (1, .int p1)]) dX7_harmOf_1 (Nat.le_of_ble_eq_true rfl) rfl ?_
  refine z_iconst (pc := 2) (v := 0) dX7_harmOf_2 ic_0 ?_
  refine z_istore_n (pc := 3) (lv' := [(3, .int 0), (2, .int 0), (0, .ref 52), (1, .int p1)]) dX7_harmOf_3 (Nat.le_of_ble_eq_true rfl) rfl ?_
  exact z_sub [2, 3, 1, 0] rfl h
set_option maxRecDepth 20000 in
theorem l_X7_harmOf_4 {X : zX} {f : zF} {K : Int32 → zF → Prop}  {x1 x2 x3 : Int32}  (hX : kR X (zRi K)) (h : (((f 56 2) ≤ x3 → K x2 f) ∧ (¬ (f 56 2) ≤ x3 → ci mX7_on [.ref 52, .int 0, .int (((f 56 2) - 1) - x3)] f (fun r101 f101 => (vp_in ((40 * x1) + x3) 320 ∧ ci mX7_readBy [.ref 52, .int r101, .int (f101 55 (Int32.toNatClampNeg ((40 * x1) + x3)))] f101 (fun r102 f102 => (∀ z103 : Int32, z103 = (if r102 = r101 then 0 else 1) → Z X mX7_harmOf 4 [(0, .ref 52), (1, .int x1), (2, .int (x2 + z103)), (3, .int (x3 + 1))] [] (zC f102)))))))) : Z X mX7_harmOf 4 [(0, .ref 52), (1, .int x1), (2, .int x2), (3, .int x3)] [] (zC f) := by
  refine z_iload_n (pc := 4) dX7_harmOf_4 rfl ?_
  refine z_aload_n (pc := 5) dX7_harmOf_5 rfl ?_
  refine k_getr (pc := 6) (j := 5) zc7 dX7_harmOf_6 fl_X7_19 (by decide) rfl (by decide) rfl (k2 := 56) rfl ?_
  refine z_iconst (pc := 9) (v := 2) dX7_harmOf_9 ic_2 ?_
  refine k_iald (pc := 10) (j := 2) (v := (f 56 2)) dX7_harmOf_10 (by decide) rfl (by unfold vp_in; decide) (by decide) rfl ?_
  refine z_icmp_ge (pc := 11) (t := 67) dX7_harmOf_11 (by decide) (fun c_11 => ?_) (fun c_11 => ?_)
  · replace h := h.1 c_11
    refine z_iload_n (pc := 67) dX7_harmOf_67 rfl ?_
    exact k_iret (pc := 68) hX dX7_harmOf_68 rfl rfl h
  · replace h := h.2 c_11
    refine z_aload_n (pc := 14) dX7_harmOf_14 rfl ?_
    refine z_iconst (pc := 15) (v := 0) dX7_harmOf_15 ic_0 ?_
    refine z_aload_n (pc := 16) dX7_harmOf_16 rfl ?_
    refine k_getr (pc := 17) (j := 5) zc7 dX7_harmOf_17 fl_X7_19 (by decide) rfl (by decide) rfl (k2 := 56) rfl ?_
    refine z_iconst (pc := 20) (v := 2) dX7_harmOf_20 ic_2 ?_
    refine k_iald (pc := 21) (j := 2) (v := (f 56 2)) dX7_harmOf_21 (by decide) rfl (by unfold vp_in; decide) (by decide) rfl ?_
    refine z_iconst (pc := 22) (v := 1) dX7_harmOf_22 ic_1 ?_
    refine z_isub (pc := 23) dX7_harmOf_23 ?_
    refine z_iload_n (pc := 24) dX7_harmOf_24 rfl ?_
    refine z_isub (pc := 25) dX7_harmOf_25 ?_
    refine k_cVi (pc := 26) (av := [.int 0, .int (((f 56 2) - 1) - x3)]) zc7 rfl dX7_harmOf_26 lk_X7_170 rfl (by decide) (by decide) (by decide) rfl rfl h (fun r101 f101 h => ?_)
    refine z_istore (pc := 29) (lv' := [(4, .int r101), (0, .ref 52), (1, .int x1), (2, .int x2), (3, .int x3)]) dX7_harmOf_29 (Nat.le_of_ble_eq_true rfl) rfl ?_
    refine z_iload_n (pc := 31) dX7_harmOf_31 rfl ?_
    refine z_aload_n (pc := 32) dX7_harmOf_32 rfl ?_
    refine z_iload (pc := 33) dX7_harmOf_33 rfl ?_
    refine z_aload_n (pc := 35) dX7_harmOf_35 rfl ?_
    refine k_getr (pc := 36) (j := 4) zc7 dX7_harmOf_36 fl_X7_16 (by decide) rfl (by decide) rfl (k2 := 55) rfl ?_
    refine z_bipush (pc := 39) (v := 40) dX7_harmOf_39 bi_40 ?_
    refine z_iload_n (pc := 41) dX7_harmOf_41 rfl ?_
    refine z_imul (pc := 42) dX7_harmOf_42 ?_
    refine z_iload_n (pc := 43) dX7_harmOf_43 rfl ?_
    refine z_iadd (pc := 44) dX7_harmOf_44 ?_
    refine k_iald (pc := 45) (j := (Int32.toNatClampNeg ((40 * x1) + x3))) (v := (f101 55 (Int32.toNatClampNeg ((40 * x1) + x3)))) dX7_harmOf_45 (by decide) rfl h.1 rfl rfl ?_
    replace h := h.2
    refine k_cVi (pc := 46) (av := [.int r101, .int (f101 55 (Int32.toNatClampNeg ((40 * x1) + x3)))]) zc7 rfl dX7_harmOf_46 lk_X7_226 rfl (by decide) (by decide) (by decide) rfl rfl h (fun r102 f102 h => ?_)
    refine z_iload (pc := 49) dX7_harmOf_49 rfl ?_
    suffices hm104 : Z X mX7_harmOf 59 [(4, .int r101), (0, .ref 52), (1, .int x1), (2, .int x2), (3, .int x3)] [.int (if r102 = r101 then 0 else 1), .int x2] (zC f102) by
      refine z_icmp_eq (pc := 51) (t := 58) dX7_harmOf_51 (by decide) (fun c_51 => ?_) (fun c_51 => ?_)
      · rw [if_pos c_51] at hm104
        refine z_iconst (pc := 58) (v := 0) dX7_harmOf_58 ic_0 ?_
        exact hm104
      · rw [if_neg c_51] at hm104
        refine z_iconst (pc := 54) (v := 1) dX7_harmOf_54 ic_1 ?_
        refine z_goto (pc := 55) (t := 59) dX7_harmOf_55 (by decide) ?_
        exact hm104
    refine z_name (fun z103 e_z103 => ?_)
    replace h := h z103 e_z103
    refine z_iadd (pc := 59) dX7_harmOf_59 ?_
    refine z_istore_n (pc := 60) (lv' := [(2, .int (x2 + z103)), (4, .int r101), (0, .ref 52), (1, .int x1), (3, .int x3)]) dX7_harmOf_60 (Nat.le_of_ble_eq_true rfl) rfl ?_
    refine z_iinc (pc := 61) (v := (x3 + 1)) (lv' := [(3, .int (x3 + 1)), (2, .int (x2 + z103)), (4, .int r101), (0, .ref 52), (1, .int x1)]) dX7_harmOf_61 rfl (congrArg (fun z => x3 + z) ic_1) (Nat.le_of_ble_eq_true rfl) rfl ?_
    refine z_goto (pc := 64) (t := 4) dX7_harmOf_64 (by decide) ?_
    exact z_sub [3, 4, 1, 0] rfl h
set_option maxRecDepth 20000 in
theorem w_X7_markOf {f : zF} {K : Int32 → zF → Prop} {p1 : Int32} (h : ci mX7_kindOf [.ref 52, .int p1] f (fun r1 f1 => ((r1 < 4 → ((r1 = 1 → cv mX7_began [.ref 52, .int 21] f1 (fun f2 => cv mX7_began [.ref 52, .int 20] f2 (fun f3 => ci mX7_cellsOf [.ref 52, .int p1] f3 (fun r4 f4 => ((¬ r1 = 1 → ((¬ r1 = 3 → K (2 * (p1 + r4)) f4) ∧ (r1 = 3 → K ((p1 + r4) - 1000) f4))) ∧ (r1 = 1 → K (p1 + r4) f4)))))) ∧ (¬ r1 = 1 → (∀ z5 : Int32, z5 = (if r1 = 3 then 22 else 24) → cv mX7_began [.ref 52, .int z5] f1 (fun f6 => cv mX7_began [.ref 52, .int 21] f6 (fun f7 => cv mX7_began [.ref 52, .int 20] f7 (fun f8 => ci mX7_cellsOf [.ref 52, .int p1] f8 (fun r9 f9 => ((¬ r1 = 1 → ((¬ r1 = 3 → K (2 * (p1 + r9)) f9) ∧ (r1 = 3 → K ((p1 + r9) - 1000) f9))) ∧ (r1 = 1 → K (p1 + r9) f9)))))))))) ∧ (¬ r1 < 4 → cv mX7_began [.ref 52, .int 23] f1 (fun f11 => cv mX7_began [.ref 52, .int 20] f11 (fun f12 => ci mX7_markSize [.ref 52, .int p1] f12 (fun r13 f13 => K (p1 - r13) f13))))))) : ci mX7_markOf [.ref 52, .int p1] f K := by
  refine ci_of (by decide) (Nat.le_of_ble_eq_true rfl) (fun X hX => ?_)
  refine z_aload_n (pc := 0) dX7_markOf_0 rfl ?_
  refine z_iload_n (pc := 1) dX7_markOf_1 rfl ?_
  refine k_cVi (pc := 2) (av := [.int p1]) zc7 rfl dX7_markOf_2 lk_X7_173 rfl (by decide) (by decide) (by decide) rfl rfl h (fun r1 f1 h => ?_)
  refine z_istore_n (pc := 5) (lv' := [(2, .int r1), (0, .ref 52), (1, .int p1)]) dX7_markOf_5 (Nat.le_of_ble_eq_true rfl) rfl ?_
  refine z_iload_n (pc := 6) dX7_markOf_6 rfl ?_
  refine z_iconst (pc := 7) (v := 4) dX7_markOf_7 ic_4 ?_
  refine z_icmp_lt (pc := 8) (t := 31) dX7_markOf_8 (by decide) (fun c_8 => ?_) (fun c_8 => ?_)
  · replace h := h.1 c_8
    refine z_iload_n (pc := 31) dX7_markOf_31 rfl ?_
    refine z_iconst (pc := 32) (v := 1) dX7_markOf_32 ic_1 ?_
    refine z_icmp_eq (pc := 33) (t := 52) dX7_markOf_33 (by decide) (fun c_33 => ?_) (fun c_33 => ?_)
    · replace h := h.1 c_33
      refine z_aload_n (pc := 52) dX7_markOf_52 rfl ?_
      refine z_bipush (pc := 53) (v := 21) dX7_markOf_53 bi_21 ?_
      refine k_cVv (pc := 55) (av := [.int 21]) zc7 rfl dX7_markOf_55 lk_X7_251 rfl (by decide) (by decide) (by decide) rfl rfl h (fun f2 h => ?_)
      refine z_aload_n (pc := 58) dX7_markOf_58 rfl ?_
      refine z_bipush (pc := 59) (v := 20) dX7_markOf_59 bi_20 ?_
      refine k_cVv (pc := 61) (av := [.int 20]) zc7 rfl dX7_markOf_61 lk_X7_251 rfl (by decide) (by decide) (by decide) rfl rfl h (fun f3 h => ?_)
      refine z_iload_n (pc := 64) dX7_markOf_64 rfl ?_
      refine z_aload_n (pc := 65) dX7_markOf_65 rfl ?_
      refine z_iload_n (pc := 66) dX7_markOf_66 rfl ?_
      refine k_cVi (pc := 67) (av := [.int p1]) zc7 rfl dX7_markOf_67 lk_X7_176 rfl (by decide) (by decide) (by decide) rfl rfl h (fun r4 f4 h => ?_)
      refine z_iadd (pc := 70) dX7_markOf_70 ?_
      refine z_istore_n (pc := 71) (lv' := [(3, .int (p1 + r4)), (2, .int r1), (0, .ref 52), (1, .int p1)]) dX7_markOf_71 (Nat.le_of_ble_eq_true rfl) rfl ?_
      refine z_iload_n (pc := 72) dX7_markOf_72 rfl ?_
      refine z_iconst (pc := 73) (v := 1) dX7_markOf_73 ic_1 ?_
      refine z_icmp_ne (pc := 74) (t := 81) dX7_markOf_74 (by decide) (fun c_74 => ?_) (fun c_74 => ?_)
      · replace h := h.1 c_74
        refine z_iload_n (pc := 81) dX7_markOf_81 rfl ?_
        refine z_iconst (pc := 82) (v := 3) dX7_markOf_82 ic_3 ?_
        refine z_icmp_ne (pc := 83) (t := 94) dX7_markOf_83 (by decide) (fun c_83 => ?_) (fun c_83 => ?_)
        · replace h := h.1 c_83
          refine z_iconst (pc := 94) (v := 2) dX7_markOf_94 ic_2 ?_
          refine z_iload_n (pc := 95) dX7_markOf_95 rfl ?_
          refine z_imul (pc := 96) dX7_markOf_96 ?_
          exact k_iret (pc := 97) hX dX7_markOf_97 rfl rfl h
        · replace h := h.2 c_83
          refine z_iload_n (pc := 86) dX7_markOf_86 rfl ?_
          refine z_sipush (pc := 87) (v := 1000) dX7_markOf_87 si_1000 ?_
          refine z_isub (pc := 90) dX7_markOf_90 ?_
          refine z_goto (pc := 91) (t := 97) dX7_markOf_91 (by decide) ?_
          exact k_iret (pc := 97) hX dX7_markOf_97 rfl rfl h
      · replace h := h.2 c_74
        refine z_iload_n (pc := 77) dX7_markOf_77 rfl ?_
        refine z_goto (pc := 78) (t := 97) dX7_markOf_78 (by decide) ?_
        exact k_iret (pc := 97) hX dX7_markOf_97 rfl rfl h
    · replace h := h.2 c_33
      refine z_aload_n (pc := 36) dX7_markOf_36 rfl ?_
      refine z_iload_n (pc := 37) dX7_markOf_37 rfl ?_
      refine z_iconst (pc := 38) (v := 3) dX7_markOf_38 ic_3 ?_
      suffices hm10 : Z X mX7_markOf 49 [(2, .int r1), (0, .ref 52), (1, .int p1)] [.int (if r1 = 3 then 22 else 24), .ref 52] (zC f1) by
        refine z_icmp_ne (pc := 39) (t := 47) dX7_markOf_39 (by decide) (fun c_39 => ?_) (fun c_39 => ?_)
        · rw [if_neg c_39] at hm10
          refine z_bipush (pc := 47) (v := 24) dX7_markOf_47 bi_24 ?_
          exact hm10
        · rw [if_pos c_39] at hm10
          refine z_bipush (pc := 42) (v := 22) dX7_markOf_42 bi_22 ?_
          refine z_goto (pc := 44) (t := 49) dX7_markOf_44 (by decide) ?_
          exact hm10
      refine z_name (fun z5 e_z5 => ?_)
      replace h := h z5 e_z5
      refine k_cVv (pc := 49) (av := [.int z5]) zc7 rfl dX7_markOf_49 lk_X7_251 rfl (by decide) (by decide) (by decide) rfl rfl h (fun f6 h => ?_)
      refine z_aload_n (pc := 52) dX7_markOf_52 rfl ?_
      refine z_bipush (pc := 53) (v := 21) dX7_markOf_53 bi_21 ?_
      refine k_cVv (pc := 55) (av := [.int 21]) zc7 rfl dX7_markOf_55 lk_X7_251 rfl (by decide) (by decide) (by decide) rfl rfl h (fun f7 h => ?_)
      refine z_aload_n (pc := 58) dX7_markOf_58 rfl ?_
      refine z_bipush (pc := 59) (v := 20) dX7_markOf_59 bi_20 ?_
      refine k_cVv (pc := 61) (av := [.int 20]) zc7 rfl dX7_markOf_61 lk_X7_251 rfl (by decide) (by decide) (by decide) rfl rfl h (fun f8 h => ?_)
      refine z_iload_n (pc := 64) dX7_markOf_64 rfl ?_
      refine z_aload_n (pc := 65) dX7_markOf_65 rfl ?_
      refine z_iload_n (pc := 66) dX7_markOf_66 rfl ?_
      refine k_cVi (pc := 67) (av := [.int p1]) zc7 rfl dX7_markOf_67 lk_X7_176 rfl (by decide) (by decide) (by decide) rfl rfl h (fun r9 f9 h => ?_)
      refine z_iadd (pc := 70) dX7_markOf_70 ?_
      refine z_istore_n (pc := 71) (lv' := [(3, .int (p1 + r9)), (2, .int r1), (0, .ref 52), (1, .int p1)]) dX7_markOf_71 (Nat.le_of_ble_eq_true rfl) rfl ?_
      refine z_iload_n (pc := 72) dX7_markOf_72 rfl ?_
      refine z_iconst (pc := 73) (v := 1) dX7_markOf_73 ic_1 ?_
      refine z_icmp_ne (pc := 74) (t := 81) dX7_markOf_74 (by decide) (fun c_74 => ?_) (fun c_74 => ?_)
      · replace h := h.1 c_74
        refine z_iload_n (pc := 81) dX7_markOf_81 rfl ?_
        refine z_iconst (pc := 82) (v := 3) dX7_markOf_82 ic_3 ?_
        refine z_icmp_ne (pc := 83) (t := 94) dX7_markOf_83 (by decide) (fun c_83 => ?_) (fun c_83 => ?_)
        · replace h := h.1 c_83
          refine z_iconst (pc := 94) (v := 2) dX7_markOf_94 ic_2 ?_
          refine z_iload_n (pc := 95) dX7_markOf_95 rfl ?_
          refine z_imul (pc := 96) dX7_markOf_96 ?_
          exact k_iret (pc := 97) hX dX7_markOf_97 rfl rfl h
        · replace h := h.2 c_83
          refine z_iload_n (pc := 86) dX7_markOf_86 rfl ?_
          refine z_sipush (pc := 87) (v := 1000) dX7_markOf_87 si_1000 ?_
          refine z_isub (pc := 90) dX7_markOf_90 ?_
          refine z_goto (pc := 91) (t := 97) dX7_markOf_91 (by decide) ?_
          exact k_iret (pc := 97) hX dX7_markOf_97 rfl rfl h
      · replace h := h.2 c_74
        refine z_iload_n (pc := 77) dX7_markOf_77 rfl ?_
        refine z_goto (pc := 78) (t := 97) dX7_markOf_78 (by decide) ?_
        exact k_iret (pc := 97) hX dX7_markOf_97 rfl rfl h
  · replace h := h.2 c_8
    refine z_aload_n (pc := 11) dX7_markOf_11 rfl ?_
    refine z_bipush (pc := 12) (v := 23) dX7_markOf_12 bi_23 ?_
    refine k_cVv (pc := 14) (av := [.int 23]) zc7 rfl dX7_markOf_14 lk_X7_251 rfl (by decide) (by decide) (by decide) rfl rfl h (fun f11 h => ?_)
    refine z_aload_n (pc := 17) dX7_markOf_17 rfl ?_
    refine z_bipush (pc := 18) (v := 20) dX7_markOf_18 bi_20 ?_
    refine k_cVv (pc := 20) (av := [.int 20]) zc7 rfl dX7_markOf_20 lk_X7_251 rfl (by decide) (by decide) (by decide) rfl rfl h (fun f12 h => ?_)
    refine z_iload_n (pc := 23) dX7_markOf_23 rfl ?_
    refine z_aload_n (pc := 24) dX7_markOf_24 rfl ?_
    refine z_iload_n (pc := 25) dX7_markOf_25 rfl ?_
    refine k_cVi (pc := 26) (av := [.int p1]) zc7 rfl dX7_markOf_26 lk_X7_257 rfl (by decide) (by decide) (by decide) rfl rfl h (fun r13 f13 h => ?_)
    refine z_isub (pc := 29) dX7_markOf_29 ?_
    exact k_iret (pc := 30) hX dX7_markOf_30 rfl rfl h
