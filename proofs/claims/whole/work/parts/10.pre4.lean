/-! ===== preconditions, by program ===== -/
set_option maxRecDepth 20000 in
theorem w_X7_mustEnd {f : zF} {K : zF → Prop}  (h : ((¬ (f 52 17) = 0 → K f) ∧ ((f 52 17) = 0 → (∀ z1 : Int32, z1 = (if (f 52 14) = 4 then 1 else 0) → cv mX7_must [.ref 52, .int z1] f (fun f2 => K f2))))) : cv mX7_mustEnd [.ref 52] f K := by
  refine cv_of (by decide) (Nat.le_of_ble_eq_true rfl) (fun X hX => ?_)
  refine z_aload_n (pc := 0) dX7_mustEnd_0 rfl ?_
  refine k_geti (pc := 1) (j := 17) zc7 dX7_mustEnd_1 fl_X7_99 (by decide) rfl (by decide) rfl (v := (f 52 17)) rfl ?_
  refine z_if_ne (pc := 4) (t := 24) dX7_mustEnd_4 (by decide) (fun c_4 => ?_) (fun c_4 => ?_)
  · replace h := h.1 c_4
    exact k_vret (pc := 24) hX dX7_mustEnd_24 rfl h
  · replace h := h.2 c_4
    refine z_aload_n (pc := 7) dX7_mustEnd_7 rfl ?_
    refine z_aload_n (pc := 8) dX7_mustEnd_8 rfl ?_
    refine k_geti (pc := 9) (j := 14) zc7 dX7_mustEnd_9 fl_X7_87 (by decide) rfl (by decide) rfl (v := (f 52 14)) rfl ?_
    refine z_iconst (pc := 12) (v := 4) dX7_mustEnd_12 ic_4 ?_
    suffices hm3 : Z X mX7_mustEnd 21 [(0, .ref 52)] [.int (if (f 52 14) = 4 then 1 else 0), .ref 52] (zC f) by
      refine z_icmp_ne (pc := 13) (t := 20) dX7_mustEnd_13 (by decide) (fun c_13 => ?_) (fun c_13 => ?_)
      · rw [if_neg c_13] at hm3
        refine z_iconst (pc := 20) (v := 0) dX7_mustEnd_20 ic_0 ?_
        exact hm3
      · rw [if_pos c_13] at hm3
        refine z_iconst (pc := 16) (v := 1) dX7_mustEnd_16 ic_1 ?_
        refine z_goto (pc := 17) (t := 21) dX7_mustEnd_17 (by decide) ?_
        exact hm3
    refine z_name (fun z1 e_z1 => ?_)
    replace h := h z1 e_z1
    refine k_cVv (pc := 21) (av := [.int z1]) zc7 rfl dX7_mustEnd_21 lk_X7_116 rfl (by decide) (by decide) (by decide) rfl rfl h (fun f2 h => ?_)
    exact k_vret (pc := 24) hX dX7_mustEnd_24 rfl h
set_option maxRecDepth 20000 in
theorem w_X7_number {f : zF} {K : Int32 → zF → Prop} {p1 : Int32} {p2 : Int32} (h : (((f 52 17) ≤ 0 → ci mX7_figures [.ref 52] f (fun r1 f1 => ((¬ (f1 52 14) = 3 → (∀ z2 : Int32, z2 = (if (f1 52 14) = 3 then 1 else 0) → cv mX7_must [.ref 52, .int z2] f1 (fun f3 => K r1 f3))) ∧ ((f1 52 14) = 3 → ci mX7_in [.long (Int32.toInt64 r1), .long (Int32.toInt64 p1), .long (Int32.toInt64 p2)] f1 (fun r5 f5 => ((¬ r5 = 0 → (∀ z6 : Int32, z6 = (if (f5 52 14) = 3 then 1 else 0) → cv mX7_must [.ref 52, .int z6] f5 (fun f7 => K r1 f7))) ∧ (r5 = 0 → cv mX7_bad [.ref 52, .int 2] f5 (fun f9 => (∀ z10 : Int32, z10 = (if (f9 52 14) = 3 then 1 else 0) → cv mX7_must [.ref 52, .int z10] f9 (fun f11 => K r1 f11)))))))))) ∧ (¬ (f 52 17) ≤ 0 → K 0 f))) : ci mX7_number [.ref 52, .int p1, .int p2] f K := by
  refine ci_of (by decide) (Nat.le_of_ble_eq_true rfl) (fun X hX => ?_)
  refine z_aload_n (pc := 0) dX7_number_0 rfl ?_
  refine k_geti (pc := 1) (j := 17) zc7 dX7_number_1 fl_X7_99 (by decide) rfl (by decide) rfl (v := (f 52 17)) rfl ?_
  refine z_if_le (pc := 4) (t := 9) dX7_number_4 (by decide) (fun c_4 => ?_) (fun c_4 => ?_)
  · replace h := h.1 c_4
    refine z_aload_n (pc := 9) dX7_number_9 rfl ?_
    refine k_cVi (pc := 10) (av := []) zc7 rfl dX7_number_10 lk_X7_112 rfl (by decide) (by decide) (by decide) rfl rfl h (fun r1 f1 h => ?_)
    refine z_istore_n (pc := 13) (lv' := [(3, .int r1), (0, .ref 52), (1, .int p1), (2, .int p2)]) dX7_number_13 (Nat.le_of_ble_eq_true rfl) rfl ?_
    refine z_aload_n (pc := 14) dX7_number_14 rfl ?_
    refine k_geti (pc := 15) (j := 14) zc7 dX7_number_15 fl_X7_87 (by decide) rfl (by decide) rfl (v := (f1 52 14)) rfl ?_
    refine z_iconst (pc := 18) (v := 3) dX7_number_18 ic_3 ?_
    refine z_icmp_ne (pc := 19) (t := 39) dX7_number_19 (by decide) (fun c_19 => ?_) (fun c_19 => ?_)
    · replace h := h.1 c_19
      refine z_aload_n (pc := 39) dX7_number_39 rfl ?_
      refine z_aload_n (pc := 40) dX7_number_40 rfl ?_
      refine k_geti (pc := 41) (j := 14) zc7 dX7_number_41 fl_X7_87 (by decide) rfl (by decide) rfl (v := (f1 52 14)) rfl ?_
      refine z_iconst (pc := 44) (v := 3) dX7_number_44 ic_3 ?_
      suffices hm4 : Z X mX7_number 53 [(3, .int r1), (0, .ref 52), (1, .int p1), (2, .int p2)] [.int (if (f1 52 14) = 3 then 1 else 0), .ref 52] (zC f1) by
        refine z_icmp_ne (pc := 45) (t := 52) dX7_number_45 (by decide) (fun c_45 => ?_) (fun c_45 => ?_)
        · rw [if_neg c_45] at hm4
          refine z_iconst (pc := 52) (v := 0) dX7_number_52 ic_0 ?_
          exact hm4
        · rw [if_pos c_45] at hm4
          refine z_iconst (pc := 48) (v := 1) dX7_number_48 ic_1 ?_
          refine z_goto (pc := 49) (t := 53) dX7_number_49 (by decide) ?_
          exact hm4
      refine z_name (fun z2 e_z2 => ?_)
      replace h := h z2 e_z2
      refine k_cVv (pc := 53) (av := [.int z2]) zc7 rfl dX7_number_53 lk_X7_116 rfl (by decide) (by decide) (by decide) rfl rfl h (fun f3 h => ?_)
      refine z_iload_n (pc := 56) dX7_number_56 rfl ?_
      exact k_iret (pc := 57) hX dX7_number_57 rfl rfl h
    · replace h := h.2 c_19
      refine z_iload_n (pc := 22) dX7_number_22 rfl ?_
      refine z_i2l (pc := 23) dX7_number_23 ?_
      refine z_iload_n (pc := 24) dX7_number_24 rfl ?_
      refine z_i2l (pc := 25) dX7_number_25 ?_
      refine z_iload_n (pc := 26) dX7_number_26 rfl ?_
      refine z_i2l (pc := 27) dX7_number_27 ?_
      refine k_cSi (pc := 28) (av := [.long (Int32.toInt64 r1), .long (Int32.toInt64 p1), .long (Int32.toInt64 p2)]) dX7_number_28 lk_X7_51 rfl (by decide) (by decide) rfl h (fun r5 f5 h => ?_)
      refine z_if_ne (pc := 31) (t := 39) dX7_number_31 (by decide) (fun c_31 => ?_) (fun c_31 => ?_)
      · replace h := h.1 c_31
        refine z_aload_n (pc := 39) dX7_number_39 rfl ?_
        refine z_aload_n (pc := 40) dX7_number_40 rfl ?_
        refine k_geti (pc := 41) (j := 14) zc7 dX7_number_41 fl_X7_87 (by decide) rfl (by decide) rfl (v := (f5 52 14)) rfl ?_
        refine z_iconst (pc := 44) (v := 3) dX7_number_44 ic_3 ?_
        suffices hm8 : Z X mX7_number 53 [(3, .int r1), (0, .ref 52), (1, .int p1), (2, .int p2)] [.int (if (f5 52 14) = 3 then 1 else 0), .ref 52] (zC f5) by
          refine z_icmp_ne (pc := 45) (t := 52) dX7_number_45 (by decide) (fun c_45 => ?_) (fun c_45 => ?_)
          · rw [if_neg c_45] at hm8
            refine z_iconst (pc := 52) (v := 0) dX7_number_52 ic_0 ?_
            exact hm8
          · rw [if_pos c_45] at hm8
            refine z_iconst (pc := 48) (v := 1) dX7_number_48 ic_1 ?_
            refine z_goto (pc := 49) (t := 53) dX7_number_49 (by decide) ?_
            exact hm8
        refine z_name (fun z6 e_z6 => ?_)
        replace h := h z6 e_z6
        refine k_cVv (pc := 53) (av := [.int z6]) zc7 rfl dX7_number_53 lk_X7_116 rfl (by decide) (by decide) (by decide) rfl rfl h (fun f7 h => ?_)
        refine z_iload_n (pc := 56) dX7_number_56 rfl ?_
        exact k_iret (pc := 57) hX dX7_number_57 rfl rfl h
      · replace h := h.2 c_31
        refine z_aload_n (pc := 34) dX7_number_34 rfl ?_
        refine z_iconst (pc := 35) (v := 2) dX7_number_35 ic_2 ?_
        refine k_cVv (pc := 36) (av := [.int 2]) zc7 rfl dX7_number_36 lk_X7_108 rfl (by decide) (by decide) (by decide) rfl rfl h (fun f9 h => ?_)
        refine z_aload_n (pc := 39) dX7_number_39 rfl ?_
        refine z_aload_n (pc := 40) dX7_number_40 rfl ?_
        refine k_geti (pc := 41) (j := 14) zc7 dX7_number_41 fl_X7_87 (by decide) rfl (by decide) rfl (v := (f9 52 14)) rfl ?_
        refine z_iconst (pc := 44) (v := 3) dX7_number_44 ic_3 ?_
        suffices hm12 : Z X mX7_number 53 [(3, .int r1), (0, .ref 52), (1, .int p1), (2, .int p2)] [.int (if (f9 52 14) = 3 then 1 else 0), .ref 52] (zC f9) by
          refine z_icmp_ne (pc := 45) (t := 52) dX7_number_45 (by decide) (fun c_45 => ?_) (fun c_45 => ?_)
          · rw [if_neg c_45] at hm12
            refine z_iconst (pc := 52) (v := 0) dX7_number_52 ic_0 ?_
            exact hm12
          · rw [if_pos c_45] at hm12
            refine z_iconst (pc := 48) (v := 1) dX7_number_48 ic_1 ?_
            refine z_goto (pc := 49) (t := 53) dX7_number_49 (by decide) ?_
            exact hm12
        refine z_name (fun z10 e_z10 => ?_)
        replace h := h z10 e_z10
        refine k_cVv (pc := 53) (av := [.int z10]) zc7 rfl dX7_number_53 lk_X7_116 rfl (by decide) (by decide) (by decide) rfl rfl h (fun f11 h => ?_)
        refine z_iload_n (pc := 56) dX7_number_56 rfl ?_
        exact k_iret (pc := 57) hX dX7_number_57 rfl rfl h
  · replace h := h.2 c_4
    refine z_iconst (pc := 7) (v := 0) dX7_number_7 ic_0 ?_
    exact k_iret (pc := 8) hX dX7_number_8 rfl rfl h
set_option maxRecDepth 20000 in
theorem w_J0_charAt_5068e {f : zF} {K : Int32 → zF → Prop} {w : Nat} {p1 : Int32} (hw : w < 8) (h : ci mJ0_isLatin1_aae02 [.ref (1000 + w)] f (fun r1 f1 => ((r1 = 0 → ci mJ2_charAt_3b067 [.ref (1100 + w), .int p1] f1 (fun r2 f2 => (narrow .char (.int r2) = .int r2 ∧ K r2 f2))) ∧ (¬ r1 = 0 → ci mJ1_charAt_3b067 [.ref (1100 + w), .int p1] f1 (fun r3 f3 => (narrow .char (.int r3) = .int r3 ∧ K r3 f3)))))) : ci mJ0_charAt_5068e [.ref (1000 + w), .int p1] f K := by
  refine ci_of (by decide) (Nat.le_of_ble_eq_true rfl) (fun X hX => ?_)
  refine z_aload_n (pc := 0) dJ0_charAt_5068e_0 rfl ?_
  refine k_cTi (pc := 1) (av := []) rfl dJ0_charAt_5068e_1 lk_J0_492 rfl (by decide) (by decide) hw rfl h (fun r1 f1 h => ?_)
  refine z_if_eq (pc := 4) (t := 16) dJ0_charAt_5068e_4 (by decide) (fun c_4 => ?_) (fun c_4 => ?_)
  · replace h := h.1 c_4
    refine z_aload_n (pc := 16) dJ0_charAt_5068e_16 rfl ?_
    refine z_gSv (pc := 17) dJ0_charAt_5068e_17 hw fl_J0_9 ?_
    refine z_iload_n (pc := 20) dJ0_charAt_5068e_20 rfl ?_
    refine k_cSi (pc := 21) (av := [.ref (1100 + w), .int p1]) dJ0_charAt_5068e_21 lk_J0_498 rfl (by decide) (by decide) rfl h (fun r2 f2 h => ?_)
    exact k_iret (pc := 24) hX dJ0_charAt_5068e_24 rfl h.1 h.2
  · replace h := h.2 c_4
    refine z_aload_n (pc := 7) dJ0_charAt_5068e_7 rfl ?_
    refine z_gSv (pc := 8) dJ0_charAt_5068e_8 hw fl_J0_9 ?_
    refine z_iload_n (pc := 11) dJ0_charAt_5068e_11 rfl ?_
    refine k_cSi (pc := 12) (av := [.ref (1100 + w), .int p1]) dJ0_charAt_5068e_12 lk_J0_495 rfl (by decide) (by decide) rfl h (fun r3 f3 h => ?_)
    exact k_iret (pc := 15) hX dJ0_charAt_5068e_15 rfl h.1 h.2
set_option maxRecDepth 20000 in
theorem w_X1_markOfMark {f : zF} {K : Int32 → zF → Prop} {p2 : Int32} (h : cv mX1_begin [.ref 22, .int 23] f (fun f1 => ci mX1_markOfAny [.ref 22, .int p2] f1 (fun r2 f2 => ci mX1_sizeOfMark [.ref 22, .ref 12, .int p2] f2 (fun r3 f3 => K (r2 - r3) f3)))) : ci mX1_markOfMark [.ref 22, .ref 12, .int p2] f K := by
  refine ci_of (by decide) (Nat.le_of_ble_eq_true rfl) (fun X hX => ?_)
  refine z_aload_n (pc := 0) dX1_markOfMark_0 rfl ?_
  refine z_bipush (pc := 1) (v := 23) dX1_markOfMark_1 bi_23 ?_
  refine k_cVv (pc := 3) (av := [.int 23]) zc1 rfl dX1_markOfMark_3 lk_X1_47 rfl (by decide) (by decide) (by decide) rfl rfl h (fun f1 h => ?_)
  refine z_aload_n (pc := 6) dX1_markOfMark_6 rfl ?_
  refine z_iload_n (pc := 7) dX1_markOfMark_7 rfl ?_
  refine k_cVi (pc := 8) (av := [.int p2]) zc1 rfl dX1_markOfMark_8 lk_X1_62 rfl (by decide) (by decide) (by decide) rfl rfl h (fun r2 f2 h => ?_)
  refine z_aload_n (pc := 11) dX1_markOfMark_11 rfl ?_
  refine z_aload_n (pc := 12) dX1_markOfMark_12 rfl ?_
  refine z_iload_n (pc := 13) dX1_markOfMark_13 rfl ?_
  refine k_cVi (pc := 14) (av := [.ref 12, .int p2]) zc1 rfl dX1_markOfMark_14 lk_X1_29 rfl (by decide) (by decide) (by decide) rfl rfl h (fun r3 f3 h => ?_)
  refine z_isub (pc := 17) dX1_markOfMark_17 ?_
  exact k_iret (pc := 18) hX dX1_markOfMark_18 rfl rfl h
set_option maxRecDepth 20000 in
theorem w_X1_sizeOfPlain {f : zF} {K : Int32 → zF → Prop} {p2 : Int32} (h : ci mX2_kindOf [.ref 12, .int p2] f (fun r1 f1 => (∀ z2 : Int32, z2 = (if r1 = 2 then 1 else 0) → ((z2 = 0 → cv mX1_begin [.ref 22, .int 11] f1 (fun f3 => ci mX1_sizeOfAny [.ref 22, .ref 12, .int p2] f3 (fun r4 f4 => ci mX1_markOfPlain [.ref 22, .ref 12, .int p2] f4 (fun r5 f5 => ((z2 = 0 → K (r4 + r5) f5) ∧ (¬ z2 = 0 → K (0 - (r4 + r5)) f5)))))) ∧ (¬ z2 = 0 → cv mX1_begin [.ref 22, .int 12] f1 (fun f6 => cv mX1_begin [.ref 22, .int 11] f6 (fun f7 => ci mX1_sizeOfAny [.ref 22, .ref 12, .int p2] f7 (fun r8 f8 => ci mX1_markOfPlain [.ref 22, .ref 12, .int p2] f8 (fun r9 f9 => ((z2 = 0 → K (r8 + r9) f9) ∧ (¬ z2 = 0 → K (0 - (r8 + r9)) f9))))))))))) : ci mX1_sizeOfPlain [.ref 22, .ref 12, .int p2] f K := by
  refine ci_of (by decide) (Nat.le_of_ble_eq_true rfl) (fun X hX => ?_)
  refine z_aload_n (pc := 0) dX1_sizeOfPlain_0 rfl ?_
  refine z_iload_n (pc := 1) dX1_sizeOfPlain_1 rfl ?_
  refine k_cVi (pc := 2) (av := [.int p2]) zc2 rfl dX1_sizeOfPlain_2 lk_X1_19 rfl (by decide) (by decide) (by decide) rfl rfl h (fun r1 f1 h => ?_)
  refine z_iconst (pc := 5) (v := 2) dX1_sizeOfPlain_5 ic_2 ?_
  suffices hm10 : Z X mX1_sizeOfPlain 14 [(0, .ref 22), (1, .ref 12), (2, .int p2)] [.int (if r1 = 2 then 1 else 0)] (zC f1) by
    refine z_icmp_ne (pc := 6) (t := 13) dX1_sizeOfPlain_6 (by decide) (fun c_6 => ?_) (fun c_6 => ?_)
    · rw [if_neg c_6] at hm10
      refine z_iconst (pc := 13) (v := 0) dX1_sizeOfPlain_13 ic_0 ?_
      exact hm10
    · rw [if_pos c_6] at hm10
      refine z_iconst (pc := 9) (v := 1) dX1_sizeOfPlain_9 ic_1 ?_
      refine z_goto (pc := 10) (t := 14) dX1_sizeOfPlain_10 (by decide) ?_
      exact hm10
  refine z_name (fun z2 e_z2 => ?_)
  replace h := h z2 e_z2
  refine z_istore_n (pc := 14) (lv' := [(3, .int z2), (0, .ref 22), (1, .ref 12), (2, .int p2)]) dX1_sizeOfPlain_14 (Nat.le_of_ble_eq_true rfl) rfl ?_
  refine z_iload_n (pc := 15) dX1_sizeOfPlain_15 rfl ?_
  refine z_if_eq (pc := 16) (t := 25) dX1_sizeOfPlain_16 (by decide) (fun c_16 => ?_) (fun c_16 => ?_)
  · replace h := h.1 c_16
    refine z_aload_n (pc := 25) dX1_sizeOfPlain_25 rfl ?_
    refine z_bipush (pc := 26) (v := 11) dX1_sizeOfPlain_26 bi_11 ?_
    refine k_cVv (pc := 28) (av := [.int 11]) zc1 rfl dX1_sizeOfPlain_28 lk_X1_47 rfl (by decide) (by decide) (by decide) rfl rfl h (fun f3 h => ?_)
    refine z_aload_n (pc := 31) dX1_sizeOfPlain_31 rfl ?_
    refine z_aload_n (pc := 32) dX1_sizeOfPlain_32 rfl ?_
    refine z_iload_n (pc := 33) dX1_sizeOfPlain_33 rfl ?_
    refine k_cVi (pc := 34) (av := [.ref 12, .int p2]) zc1 rfl dX1_sizeOfPlain_34 lk_X1_59 rfl (by decide) (by decide) (by decide) rfl rfl h (fun r4 f4 h => ?_)
    refine z_aload_n (pc := 37) dX1_sizeOfPlain_37 rfl ?_
    refine z_aload_n (pc := 38) dX1_sizeOfPlain_38 rfl ?_
    refine z_iload_n (pc := 39) dX1_sizeOfPlain_39 rfl ?_
    refine k_cVi (pc := 40) (av := [.ref 12, .int p2]) zc1 rfl dX1_sizeOfPlain_40 lk_X1_39 rfl (by decide) (by decide) (by decide) rfl rfl h (fun r5 f5 h => ?_)
    refine z_iadd (pc := 43) dX1_sizeOfPlain_43 ?_
    refine z_istore (pc := 44) (lv' := [(4, .int (r4 + r5)), (3, .int z2), (0, .ref 22), (1, .ref 12), (2, .int p2)]) dX1_sizeOfPlain_44 (Nat.le_of_ble_eq_true rfl) rfl ?_
    refine z_iload_n (pc := 46) dX1_sizeOfPlain_46 rfl ?_
    refine z_if_eq (pc := 47) (t := 57) dX1_sizeOfPlain_47 (by decide) (fun c_47 => ?_) (fun c_47 => ?_)
    · replace h := h.1 c_47
      refine z_iload (pc := 57) dX1_sizeOfPlain_57 rfl ?_
      exact k_iret (pc := 59) hX dX1_sizeOfPlain_59 rfl rfl h
    · replace h := h.2 c_47
      refine z_iconst (pc := 50) (v := 0) dX1_sizeOfPlain_50 ic_0 ?_
      refine z_iload (pc := 51) dX1_sizeOfPlain_51 rfl ?_
      refine z_isub (pc := 53) dX1_sizeOfPlain_53 ?_
      refine z_goto (pc := 54) (t := 59) dX1_sizeOfPlain_54 (by decide) ?_
      exact k_iret (pc := 59) hX dX1_sizeOfPlain_59 rfl rfl h
  · replace h := h.2 c_16
    refine z_aload_n (pc := 19) dX1_sizeOfPlain_19 rfl ?_
    refine z_bipush (pc := 20) (v := 12) dX1_sizeOfPlain_20 bi_12 ?_
    refine k_cVv (pc := 22) (av := [.int 12]) zc1 rfl dX1_sizeOfPlain_22 lk_X1_47 rfl (by decide) (by decide) (by decide) rfl rfl h (fun f6 h => ?_)
    refine z_aload_n (pc := 25) dX1_sizeOfPlain_25 rfl ?_
    refine z_bipush (pc := 26) (v := 11) dX1_sizeOfPlain_26 bi_11 ?_
    refine k_cVv (pc := 28) (av := [.int 11]) zc1 rfl dX1_sizeOfPlain_28 lk_X1_47 rfl (by decide) (by decide) (by decide) rfl rfl h (fun f7 h => ?_)
    refine z_aload_n (pc := 31) dX1_sizeOfPlain_31 rfl ?_
    refine z_aload_n (pc := 32) dX1_sizeOfPlain_32 rfl ?_
    refine z_iload_n (pc := 33) dX1_sizeOfPlain_33 rfl ?_
    refine k_cVi (pc := 34) (av := [.ref 12, .int p2]) zc1 rfl dX1_sizeOfPlain_34 lk_X1_59 rfl (by decide) (by decide) (by decide) rfl rfl h (fun r8 f8 h => ?_)
    refine z_aload_n (pc := 37) dX1_sizeOfPlain_37 rfl ?_
    refine z_aload_n (pc := 38) dX1_sizeOfPlain_38 rfl ?_
    refine z_iload_n (pc := 39) dX1_sizeOfPlain_39 rfl ?_
    refine k_cVi (pc := 40) (av := [.ref 12, .int p2]) zc1 rfl dX1_sizeOfPlain_40 lk_X1_39 rfl (by decide) (by decide) (by decide) rfl rfl h (fun r9 f9 h => ?_)
    refine z_iadd (pc := 43) dX1_sizeOfPlain_43 ?_
    refine z_istore (pc := 44) (lv' := [(4, .int (r8 + r9)), (3, .int z2), (0, .ref 22), (1, .ref 12), (2, .int p2)]) dX1_sizeOfPlain_44 (Nat.le_of_ble_eq_true rfl) rfl ?_
    refine z_iload_n (pc := 46) dX1_sizeOfPlain_46 rfl ?_
    refine z_if_eq (pc := 47) (t := 57) dX1_sizeOfPlain_47 (by decide) (fun c_47 => ?_) (fun c_47 => ?_)
    · replace h := h.1 c_47
      refine z_iload (pc := 57) dX1_sizeOfPlain_57 rfl ?_
      exact k_iret (pc := 59) hX dX1_sizeOfPlain_59 rfl rfl h
    · replace h := h.2 c_47
      refine z_iconst (pc := 50) (v := 0) dX1_sizeOfPlain_50 ic_0 ?_
      refine z_iload (pc := 51) dX1_sizeOfPlain_51 rfl ?_
      refine z_isub (pc := 53) dX1_sizeOfPlain_53 ?_
      refine z_goto (pc := 54) (t := 59) dX1_sizeOfPlain_54 (by decide) ?_
      exact k_iret (pc := 59) hX dX1_sizeOfPlain_59 rfl rfl h
set_option maxRecDepth 20000 in
theorem w_X2_behindToRead {f : zF} {K : Int32 → zF → Prop} {k : Nat} {p1 : Int32} {p2 : Int32} (hk : isPage k) (h : ∀ X, kR X (zRi K) → Z X mX2_behindToRead 5 [(0, .ref k), (1, .int p1), (2, .int p2), (3, .int 0), (4, .int 0)] [] (zC f)) : ci mX2_behindToRead [.ref k, .int p1, .int p2] f K := by
  refine ci_of (by decide) (Nat.le_of_ble_eq_true rfl) (fun X hX => ?_)
  replace h := h X hX
  refine z_iconst (pc := 0) (v := 0) dX2_behindToRead_0 ic_0 ?_
  refine z_istore_n (pc := 1) (lv' := [(3, .int 0), (0, .ref k), (1, .int p1), (2, .int p2)]) dX2_behindToRead_1 (Nat.le_of_ble_eq_true rfl) rfl ?_
  refine z_iconst (pc := 2) (v := 0) dX2_behindToRead_2 ic_0 ?_
  refine z_istore (pc := 3) (lv' := [(4, .int 0), (3, .int 0), (0, .ref k), (1, .int p1), (2, .int p2)]) dX2_behindToRead_3 (Nat.le_of_ble_eq_true rfl) rfl ?_
  exact z_sub [2, 3, 4, 1, 0] rfl h
set_option maxRecDepth 20000 in
theorem l_X2_behindToRead_5 {X : zX} {f : zF} {K : Int32 → zF → Prop} {k : Nat} (hk : isPage k) {x1 x2 x3 x4 : Int32}  (hX : kR X (zRi K)) (h : (((f k 1) ≤ x4 → K x3 f) ∧ (¬ (f k 1) ≤ x4 → ci mX2_readOf [.ref k, .int x1, .int x4] f (fun r101 f101 => ((¬ r101 = x2 → Z X mX2_behindToRead 5 [(0, .ref k), (1, .int x1), (2, .int x2), (3, .int x3), (4, .int (x4 + 1))] [] (zC f101)) ∧ (r101 = x2 → Z X mX2_behindToRead 5 [(0, .ref k), (1, .int x1), (2, .int x2), (3, .int (x3 ||| (1 <<< (x4 &&& 31)))), (4, .int (x4 + 1))] [] (zC f101))))))) : Z X mX2_behindToRead 5 [(0, .ref k), (1, .int x1), (2, .int x2), (3, .int x3), (4, .int x4)] [] (zC f) := by
  refine z_iload (pc := 5) dX2_behindToRead_5 rfl ?_
  refine z_aload_n (pc := 7) dX2_behindToRead_7 rfl ?_
  refine k_geti (pc := 8) (j := 1) zc2 dX2_behindToRead_8 fl_X2_27 (by decide) rfl (pg_lt hk) (pg_sh hk) (v := (f k 1)) rfl ?_
  refine z_icmp_ge (pc := 11) (t := 38) dX2_behindToRead_11 (by decide) (fun c_11 => ?_) (fun c_11 => ?_)
  · replace h := h.1 c_11
    refine z_iload_n (pc := 38) dX2_behindToRead_38 rfl ?_
    exact k_iret (pc := 39) hX dX2_behindToRead_39 rfl rfl h
  · replace h := h.2 c_11
    refine z_aload_n (pc := 14) dX2_behindToRead_14 rfl ?_
    refine z_iload_n (pc := 15) dX2_behindToRead_15 rfl ?_
    refine z_iload (pc := 16) dX2_behindToRead_16 rfl ?_
    refine k_cVi (pc := 18) (av := [.int x1, .int x4]) zc2 rfl dX2_behindToRead_18 lk_X2_85 rfl (by decide) (by decide) (pg_lt hk) (pg_sh hk) rfl h (fun r101 f101 h => ?_)
    refine z_iload_n (pc := 21) dX2_behindToRead_21 rfl ?_
    refine z_icmp_ne (pc := 22) (t := 32) dX2_behindToRead_22 (by decide) (fun c_22 => ?_) (fun c_22 => ?_)
    · replace h := h.1 c_22
      refine z_iinc (pc := 32) (v := (x4 + 1)) (lv' := [(4, .int (x4 + 1)), (0, .ref k), (1, .int x1), (2, .int x2), (3, .int x3)]) dX2_behindToRead_32 rfl (congrArg (fun z => x4 + z) ic_1) (Nat.le_of_ble_eq_true rfl) rfl ?_
      refine z_goto (pc := 35) (t := 5) dX2_behindToRead_35 (by decide) ?_
      exact z_sub [1, 2, 3, 4, 0] rfl h
    · replace h := h.2 c_22
      refine z_iload_n (pc := 25) dX2_behindToRead_25 rfl ?_
      refine z_iconst (pc := 26) (v := 1) dX2_behindToRead_26 ic_1 ?_
      refine z_iload (pc := 27) dX2_behindToRead_27 rfl ?_
      refine z_ishl (pc := 29) dX2_behindToRead_29 ?_
      refine z_ior (pc := 30) dX2_behindToRead_30 ?_
      refine z_istore_n (pc := 31) (lv' := [(3, .int (x3 ||| (1 <<< (x4 &&& 31)))), (0, .ref k), (1, .int x1), (2, .int x2), (4, .int x4)]) dX2_behindToRead_31 (Nat.le_of_ble_eq_true rfl) rfl ?_
      refine z_iinc (pc := 32) (v := (x4 + 1)) (lv' := [(4, .int (x4 + 1)), (3, .int (x3 ||| (1 <<< (x4 &&& 31)))), (0, .ref k), (1, .int x1), (2, .int x2)]) dX2_behindToRead_32 rfl (congrArg (fun z => x4 + z) ic_1) (Nat.le_of_ble_eq_true rfl) rfl ?_
      refine z_goto (pc := 35) (t := 5) dX2_behindToRead_35 (by decide) ?_
      exact z_sub [2, 3, 4, 1, 0] rfl h
set_option maxRecDepth 20000 in
theorem w_X2_harmOf {f : zF} {K : Int32 → zF → Prop} {k : Nat} {k1 : Nat} (hk : isPage k) (hk1 : isRow k1) (h : ∀ X, kR X (zRi K) → Z X mX2_harmOf 4 [(0, .ref k), (1, .ref k1), (2, .int 0), (3, .int 0)] [] (zC f)) : ci mX2_harmOf [.ref k, .ref k1] f K := by
  refine ci_of (by decide) (Nat.le_of_ble_eq_true rfl) (fun X hX => ?_)
  replace h := h X hX
  refine z_iconst (pc := 0) (v := 0) dX2_harmOf_0 ic_0 ?_
  refine z_istore_n (pc := 1) (lv' := [(2, .int 0), (0, .ref k), (1, .ref k1)]) dX2_harmOf_1 (Nat.le_of_ble_eq_true rfl) rfl ?_
  refine z_iconst (pc := 2) (v := 0) dX2_harmOf_2 ic_0 ?_
  refine z_istore_n (pc := 3) (lv' := [(3, .int 0), (2, .int 0), (0, .ref k), (1, .ref k1)]) dX2_harmOf_3 (Nat.le_of_ble_eq_true rfl) rfl ?_
  exact z_sub [2, 3, 1, 0] rfl h
set_option maxRecDepth 20000 in
theorem l_X2_harmOf_4 {X : zX} {f : zF} {K : Int32 → zF → Prop} {k : Nat} {k1 : Nat} (hk : isPage k) (hk1 : isRow k1) {x2 x3 : Int32}  (hX : kR X (zRi K)) (h : (((f k 2) ≤ x3 → K x2 f) ∧ (¬ (f k 2) ≤ x3 → ci mX2_letterAt [.ref k, .int 0, .int x3] f (fun r101 f101 => ci mX4_itemAt [.ref k1, .int (((f101 k 2) - 1) - x3)] f101 (fun r102 f102 => ci mX2_readOf [.ref k, .int r101, .int r102] f102 (fun r103 f103 => ((r103 = r101 → Z X mX2_harmOf 4 [(0, .ref k), (1, .ref k1), (2, .int x2), (3, .int (x3 + 1))] [] (zC f103)) ∧ (¬ r103 = r101 → Z X mX2_harmOf 4 [(0, .ref k), (1, .ref k1), (2, .int (x2 + 1)), (3, .int (x3 + 1))] [] (zC f103))))))))) : Z X mX2_harmOf 4 [(0, .ref k), (1, .ref k1), (2, .int x2), (3, .int x3)] [] (zC f) := by
  refine z_iload_n (pc := 4) dX2_harmOf_4 rfl ?_
  refine z_aload_n (pc := 5) dX2_harmOf_5 rfl ?_
  refine k_geti (pc := 6) (j := 2) zc2 dX2_harmOf_6 fl_X2_31 (by decide) rfl (pg_lt hk) (pg_sh hk) (v := (f k 2)) rfl ?_
  refine z_icmp_ge (pc := 9) (t := 52) dX2_harmOf_9 (by decide) (fun c_9 => ?_) (fun c_9 => ?_)
  · replace h := h.1 c_9
    refine z_iload_n (pc := 52) dX2_harmOf_52 rfl ?_
    exact k_iret (pc := 53) hX dX2_harmOf_53 rfl rfl h
  · replace h := h.2 c_9
    refine z_aload_n (pc := 12) dX2_harmOf_12 rfl ?_
    refine z_iconst (pc := 13) (v := 0) dX2_harmOf_13 ic_0 ?_
    refine z_iload_n (pc := 14) dX2_harmOf_14 rfl ?_
    refine k_cVi (pc := 15) (av := [.int 0, .int x3]) zc2 rfl dX2_harmOf_15 lk_X2_49 rfl (by decide) (by decide) (pg_lt hk) (pg_sh hk) rfl h (fun r101 f101 h => ?_)
    refine z_istore (pc := 18) (lv' := [(4, .int r101), (0, .ref k), (1, .ref k1), (2, .int x2), (3, .int x3)]) dX2_harmOf_18 (Nat.le_of_ble_eq_true rfl) rfl ?_
    refine z_aload_n (pc := 20) dX2_harmOf_20 rfl ?_
    refine z_iload (pc := 21) dX2_harmOf_21 rfl ?_
    refine z_aload_n (pc := 23) dX2_harmOf_23 rfl ?_
    refine z_aload_n (pc := 24) dX2_harmOf_24 rfl ?_
    refine k_geti (pc := 25) (j := 2) zc2 dX2_harmOf_25 fl_X2_31 (by decide) rfl (pg_lt hk) (pg_sh hk) (v := (f101 k 2)) rfl ?_
    refine z_iconst (pc := 28) (v := 1) dX2_harmOf_28 ic_1 ?_
    refine z_isub (pc := 29) dX2_harmOf_29 ?_
    refine z_iload_n (pc := 30) dX2_harmOf_30 rfl ?_
    refine z_isub (pc := 31) dX2_harmOf_31 ?_
    refine k_cVi (pc := 32) (av := [.int (((f101 k 2) - 1) - x3)]) zc4 rfl dX2_harmOf_32 lk_X2_107 rfl (by decide) (by decide) (rw_lt hk1) (rw_sh hk1) rfl h (fun r102 f102 h => ?_)
    refine k_cVi (pc := 35) (av := [.int r101, .int r102]) zc2 rfl dX2_harmOf_35 lk_X2_85 rfl (by decide) (by decide) (pg_lt hk) (pg_sh hk) rfl h (fun r103 f103 h => ?_)
    refine z_iload (pc := 38) dX2_harmOf_38 rfl ?_
    refine z_icmp_eq (pc := 40) (t := 46) dX2_harmOf_40 (by decide) (fun c_40 => ?_) (fun c_40 => ?_)
    · replace h := h.1 c_40
      refine z_iinc (pc := 46) (v := (x3 + 1)) (lv' := [(3, .int (x3 + 1)), (4, .int r101), (0, .ref k), (1, .ref k1), (2, .int x2)]) dX2_harmOf_46 rfl (congrArg (fun z => x3 + z) ic_1) (Nat.le_of_ble_eq_true rfl) rfl ?_
      refine z_goto (pc := 49) (t := 4) dX2_harmOf_49 (by decide) ?_
      exact z_sub [2, 3, 4, 0] rfl h
    · replace h := h.2 c_40
      refine z_iinc (pc := 43) (v := (x2 + 1)) (lv' := [(2, .int (x2 + 1)), (4, .int r101), (0, .ref k), (1, .ref k1), (3, .int x3)]) dX2_harmOf_43 rfl (congrArg (fun z => x2 + z) ic_1) (Nat.le_of_ble_eq_true rfl) rfl ?_
      refine z_iinc (pc := 46) (v := (x3 + 1)) (lv' := [(3, .int (x3 + 1)), (2, .int (x2 + 1)), (4, .int r101), (0, .ref k), (1, .ref k1)]) dX2_harmOf_46 rfl (congrArg (fun z => x3 + z) ic_1) (Nat.le_of_ble_eq_true rfl) rfl ?_
      refine z_goto (pc := 49) (t := 4) dX2_harmOf_49 (by decide) ?_
      exact z_sub [3, 4, 1, 0] rfl h
set_option maxRecDepth 20000 in
theorem w_X2_isDoubt {f : zF} {K : Int32 → zF → Prop} {k : Nat} {p1 : Int32} (hk : isPage k) (h : ∀ X, kR X (zRi K) → ci mX2_leastOff [.ref k, .int p1] f (fun r1 f1 => Z X mX2_isDoubt 11 [(0, .ref k), (1, .int p1), (2, .int r1), (3, .int 0), (4, .int 0)] [] (zC f1))) : ci mX2_isDoubt [.ref k, .int p1] f K := by
  refine ci_of (by decide) (Nat.le_of_ble_eq_true rfl) (fun X hX => ?_)
  replace h := h X hX
  refine z_aload_n (pc := 0) dX2_isDoubt_0 rfl ?_
  refine z_iload_n (pc := 1) dX2_isDoubt_1 rfl ?_
  refine k_cVi (pc := 2) (av := [.int p1]) zc2 rfl dX2_isDoubt_2 lk_X2_79 rfl (by decide) (by decide) (pg_lt hk) (pg_sh hk) rfl h (fun r1 f1 h => ?_)
  refine z_istore_n (pc := 5) (lv' := [(2, .int r1), (0, .ref k), (1, .int p1)]) dX2_isDoubt_5 (Nat.le_of_ble_eq_true rfl) rfl ?_
  refine z_iconst (pc := 6) (v := 0) dX2_isDoubt_6 ic_0 ?_
  refine z_istore_n (pc := 7) (lv' := [(3, .int 0), (2, .int r1), (0, .ref k), (1, .int p1)]) dX2_isDoubt_7 (Nat.le_of_ble_eq_true rfl) rfl ?_
  refine z_iconst (pc := 8) (v := 0) dX2_isDoubt_8 ic_0 ?_
  refine z_istore (pc := 9) (lv' := [(4, .int 0), (3, .int 0), (2, .int r1), (0, .ref k), (1, .int p1)]) dX2_isDoubt_9 (Nat.le_of_ble_eq_true rfl) rfl ?_
  exact z_sub [3, 4, 2, 1, 0] rfl h
set_option maxRecDepth 20000 in
theorem l_X2_isDoubt_11 {X : zX} {f : zF} {K : Int32 → zF → Prop} {k : Nat} (hk : isPage k) {x1 x2 x3 x4 : Int32}  (hX : kR X (zRi K)) (h : (((f k 1) ≤ x4 → ((x3 ≤ 1 → K 0 f) ∧ (¬ x3 ≤ 1 → K 1 f))) ∧ (¬ (f k 1) ≤ x4 → ci mX2_offOf [.ref k, .int x4, .int x1] f (fun r102 f102 => ((¬ r102 = x2 → Z X mX2_isDoubt 11 [(0, .ref k), (1, .int x1), (2, .int x2), (3, .int x3), (4, .int (x4 + 1))] [] (zC f102)) ∧ (r102 = x2 → Z X mX2_isDoubt 11 [(0, .ref k), (1, .int x1), (2, .int x2), (3, .int (x3 + 1)), (4, .int (x4 + 1))] [] (zC f102))))))) : Z X mX2_isDoubt 11 [(0, .ref k), (1, .int x1), (2, .int x2), (3, .int x3), (4, .int x4)] [] (zC f) := by
  refine z_iload (pc := 11) dX2_isDoubt_11 rfl ?_
  refine z_aload_n (pc := 13) dX2_isDoubt_13 rfl ?_
  refine k_geti (pc := 14) (j := 1) zc2 dX2_isDoubt_14 fl_X2_27 (by decide) rfl (pg_lt hk) (pg_sh hk) (v := (f k 1)) rfl ?_
  refine z_icmp_ge (pc := 17) (t := 40) dX2_isDoubt_17 (by decide) (fun c_17 => ?_) (fun c_17 => ?_)
  · replace h := h.1 c_17
    refine z_iload_n (pc := 40) dX2_isDoubt_40 rfl ?_
    refine z_iconst (pc := 41) (v := 1) dX2_isDoubt_41 ic_1 ?_
    refine z_icmp_le (pc := 42) (t := 49) dX2_isDoubt_42 (by decide) (fun c_42 => ?_) (fun c_42 => ?_)
    · replace h := h.1 c_42
      refine z_iconst (pc := 49) (v := 0) dX2_isDoubt_49 ic_0 ?_
      exact k_iret (pc := 50) hX dX2_isDoubt_50 rfl rfl h
    · replace h := h.2 c_42
      refine z_iconst (pc := 45) (v := 1) dX2_isDoubt_45 ic_1 ?_
      refine z_goto (pc := 46) (t := 50) dX2_isDoubt_46 (by decide) ?_
      exact k_iret (pc := 50) hX dX2_isDoubt_50 rfl rfl h
  · replace h := h.2 c_17
    refine z_aload_n (pc := 20) dX2_isDoubt_20 rfl ?_
    refine z_iload (pc := 21) dX2_isDoubt_21 rfl ?_
    refine z_iload_n (pc := 23) dX2_isDoubt_23 rfl ?_
    refine k_cVi (pc := 24) (av := [.int x4, .int x1]) zc2 rfl dX2_isDoubt_24 lk_X2_73 rfl (by decide) (by decide) (pg_lt hk) (pg_sh hk) rfl h (fun r102 f102 h => ?_)
    refine z_iload_n (pc := 27) dX2_isDoubt_27 rfl ?_
    refine z_icmp_ne (pc := 28) (t := 34) dX2_isDoubt_28 (by decide) (fun c_28 => ?_) (fun c_28 => ?_)
    · replace h := h.1 c_28
      refine z_iinc (pc := 34) (v := (x4 + 1)) (lv' := [(4, .int (x4 + 1)), (0, .ref k), (1, .int x1), (2, .int x2), (3, .int x3)]) dX2_isDoubt_34 rfl (congrArg (fun z => x4 + z) ic_1) (Nat.le_of_ble_eq_true rfl) rfl ?_
      refine z_goto (pc := 37) (t := 11) dX2_isDoubt_37 (by decide) ?_
      exact z_sub [1, 2, 3, 4, 0] rfl h
    · replace h := h.2 c_28
      refine z_iinc (pc := 31) (v := (x3 + 1)) (lv' := [(3, .int (x3 + 1)), (0, .ref k), (1, .int x1), (2, .int x2), (4, .int x4)]) dX2_isDoubt_31 rfl (congrArg (fun z => x3 + z) ic_1) (Nat.le_of_ble_eq_true rfl) rfl ?_
      refine z_iinc (pc := 34) (v := (x4 + 1)) (lv' := [(4, .int (x4 + 1)), (3, .int (x3 + 1)), (0, .ref k), (1, .int x1), (2, .int x2)]) dX2_isDoubt_34 rfl (congrArg (fun z => x4 + z) ic_1) (Nat.le_of_ble_eq_true rfl) rfl ?_
      refine z_goto (pc := 37) (t := 11) dX2_isDoubt_37 (by decide) ?_
      exact z_sub [2, 3, 4, 1, 0] rfl h
set_option maxRecDepth 20000 in
theorem w_X2_placesLeftAsTheyStand {f : zF} {K : Int32 → zF → Prop} {k : Nat} (hk : isPage k) (h : ∀ X, kR X (zRi K) → Z X mX2_placesLeftAsTheyStand 4 [(0, .ref k), (1, .int 0), (2, .int 0)] [] (zC f)) : ci mX2_placesLeftAsTheyStand [.ref k] f K := by
  refine ci_of (by decide) (Nat.le_of_ble_eq_true rfl) (fun X hX => ?_)
  replace h := h X hX
  refine z_iconst (pc := 0) (v := 0) dX2_placesLeftAsTheyStand_0 ic_0 ?_
  refine z_istore_n (pc := 1) (lv' := [(1, .int 0), (0, .ref k)]) dX2_placesLeftAsTheyStand_1 (Nat.le_of_ble_eq_true rfl) rfl ?_
  refine z_iconst (pc := 2) (v := 0) dX2_placesLeftAsTheyStand_2 ic_0 ?_
  refine z_istore_n (pc := 3) (lv' := [(2, .int 0), (1, .int 0), (0, .ref k)]) dX2_placesLeftAsTheyStand_3 (Nat.le_of_ble_eq_true rfl) rfl ?_
  exact z_sub [2, 1, 0] rfl h
set_option maxRecDepth 20000 in
theorem l_X2_placesLeftAsTheyStand_4 {X : zX} {f : zF} {K : Int32 → zF → Prop} {k : Nat} (hk : isPage k) {x1 x2 : Int32}  (hX : kR X (zRi K)) (h : (((f k 2) ≤ x2 → K x1 f) ∧ (¬ (f k 2) ≤ x2 → ci mX2_shownByLight [.ref k, .int 0, .int x2] f (fun r101 f101 => ci mX2_nearest [.ref k, .int r101] f101 (fun r102 f102 => ci mX2_letterAt [.ref k, .int 0, .int x2] f102 (fun r103 f103 => ((¬ r102 = r103 → Z X mX2_placesLeftAsTheyStand 4 [(0, .ref k), (1, .int x1), (2, .int (x2 + 1))] [] (zC f103)) ∧ (r102 = r103 → Z X mX2_placesLeftAsTheyStand 4 [(0, .ref k), (1, .int (x1 + 1)), (2, .int (x2 + 1))] [] (zC f103))))))))) : Z X mX2_placesLeftAsTheyStand 4 [(0, .ref k), (1, .int x1), (2, .int x2)] [] (zC f) := by
  refine z_iload_n (pc := 4) dX2_placesLeftAsTheyStand_4 rfl ?_
  refine z_aload_n (pc := 5) dX2_placesLeftAsTheyStand_5 rfl ?_
  refine k_geti (pc := 6) (j := 2) zc2 dX2_placesLeftAsTheyStand_6 fl_X2_31 (by decide) rfl (pg_lt hk) (pg_sh hk) (v := (f k 2)) rfl ?_
  refine z_icmp_ge (pc := 9) (t := 40) dX2_placesLeftAsTheyStand_9 (by decide) (fun c_9 => ?_) (fun c_9 => ?_)
  · replace h := h.1 c_9
    refine z_iload_n (pc := 40) dX2_placesLeftAsTheyStand_40 rfl ?_
    exact k_iret (pc := 41) hX dX2_placesLeftAsTheyStand_41 rfl rfl h
  · replace h := h.2 c_9
    refine z_aload_n (pc := 12) dX2_placesLeftAsTheyStand_12 rfl ?_
    refine z_aload_n (pc := 13) dX2_placesLeftAsTheyStand_13 rfl ?_
    refine z_iconst (pc := 14) (v := 0) dX2_placesLeftAsTheyStand_14 ic_0 ?_
    refine z_iload_n (pc := 15) dX2_placesLeftAsTheyStand_15 rfl ?_
    refine k_cVi (pc := 16) (av := [.int 0, .int x2]) zc2 rfl dX2_placesLeftAsTheyStand_16 lk_X2_114 rfl (by decide) (by decide) (pg_lt hk) (pg_sh hk) rfl h (fun r101 f101 h => ?_)
    refine k_cVi (pc := 19) (av := [.int r101]) zc2 rfl dX2_placesLeftAsTheyStand_19 lk_X2_76 rfl (by decide) (by decide) (pg_lt hk) (pg_sh hk) rfl h (fun r102 f102 h => ?_)
    refine z_aload_n (pc := 22) dX2_placesLeftAsTheyStand_22 rfl ?_
    refine z_iconst (pc := 23) (v := 0) dX2_placesLeftAsTheyStand_23 ic_0 ?_
    refine z_iload_n (pc := 24) dX2_placesLeftAsTheyStand_24 rfl ?_
    refine k_cVi (pc := 25) (av := [.int 0, .int x2]) zc2 rfl dX2_placesLeftAsTheyStand_25 lk_X2_49 rfl (by decide) (by decide) (pg_lt hk) (pg_sh hk) rfl h (fun r103 f103 h => ?_)
    refine z_icmp_ne (pc := 28) (t := 34) dX2_placesLeftAsTheyStand_28 (by decide) (fun c_28 => ?_) (fun c_28 => ?_)
    · replace h := h.1 c_28
      refine z_iinc (pc := 34) (v := (x2 + 1)) (lv' := [(2, .int (x2 + 1)), (0, .ref k), (1, .int x1)]) dX2_placesLeftAsTheyStand_34 rfl (congrArg (fun z => x2 + z) ic_1) (Nat.le_of_ble_eq_true rfl) rfl ?_
      refine z_goto (pc := 37) (t := 4) dX2_placesLeftAsTheyStand_37 (by decide) ?_
      exact z_sub [1, 2, 0] rfl h
    · replace h := h.2 c_28
      refine z_iinc (pc := 31) (v := (x1 + 1)) (lv' := [(1, .int (x1 + 1)), (0, .ref k), (2, .int x2)]) dX2_placesLeftAsTheyStand_31 rfl (congrArg (fun z => x1 + z) ic_1) (Nat.le_of_ble_eq_true rfl) rfl ?_
      refine z_iinc (pc := 34) (v := (x2 + 1)) (lv' := [(2, .int (x2 + 1)), (1, .int (x1 + 1)), (0, .ref k)]) dX2_placesLeftAsTheyStand_34 rfl (congrArg (fun z => x2 + z) ic_1) (Nat.le_of_ble_eq_true rfl) rfl ?_
      refine z_goto (pc := 37) (t := 4) dX2_placesLeftAsTheyStand_37 (by decide) ?_
      exact z_sub [2, 1, 0] rfl h
set_option maxRecDepth 20000 in
theorem w_X6_damp {f : zF} {K : Int32 → zF → Prop} {p1 : Int32} {p2 : Int32} {p3 : Int32} {p4 : Int32} (h : ci mX2_hasPlace [.ref 12, .int p1, .int p2] f (fun r1 f1 => ((r1 = 0 → K (-1000001) f1) ∧ (¬ r1 = 0 → ((p3 < 0 → K (-1000001) f1) ∧ (¬ p3 < 0 → ((p3 ≤ 30 → ci mX2_shownByDamp [.ref 12, .int p1, .int p2, .int p3] f1 (fun r2 f2 => ci mX6_cellsOrReading [.ref 0, .int r2, .int p4] f2 (fun r3 f3 => K r3 f3))) ∧ (¬ p3 ≤ 30 → K (-1000001) f1)))))))) : ci mX6_damp [.ref 0, .int p1, .int p2, .int p3, .int p4] f K := by
  refine ci_of (by decide) (Nat.le_of_ble_eq_true rfl) (fun X hX => ?_)
  refine z_aload_n (pc := 0) dX6_damp_0 rfl ?_
  refine k_getr (pc := 1) (j := 3) zc6 dX6_damp_1 fl_X6_29 (by decide) rfl (by decide) rfl (k2 := 12) rfl ?_
  refine z_iload_n (pc := 4) dX6_damp_4 rfl ?_
  refine z_iload_n (pc := 5) dX6_damp_5 rfl ?_
  refine k_cVi (pc := 6) (av := [.int p1, .int p2]) zc2 rfl dX6_damp_6 lk_X6_127 rfl (by decide) (by decide) (by decide) rfl rfl h (fun r1 f1 h => ?_)
  refine z_if_eq (pc := 9) (t := 22) dX6_damp_9 (by decide) (fun c_9 => ?_) (fun c_9 => ?_)
  · replace h := h.1 c_9
    refine z_ldc (pc := 22) (v := -1000001) dX6_damp_22 co_X6_52 ?_
    exact k_iret (pc := 24) hX dX6_damp_24 rfl rfl h
  · replace h := h.2 c_9
    refine z_iload_n (pc := 12) dX6_damp_12 rfl ?_
    refine z_if_lt (pc := 13) (t := 22) dX6_damp_13 (by decide) (fun c_13 => ?_) (fun c_13 => ?_)
    · replace h := h.1 c_13
      refine z_ldc (pc := 22) (v := -1000001) dX6_damp_22 co_X6_52 ?_
      exact k_iret (pc := 24) hX dX6_damp_24 rfl rfl h
    · replace h := h.2 c_13
      refine z_iload_n (pc := 16) dX6_damp_16 rfl ?_
      refine z_bipush (pc := 17) (v := 30) dX6_damp_17 bi_30 ?_
      refine z_icmp_le (pc := 19) (t := 25) dX6_damp_19 (by decide) (fun c_19 => ?_) (fun c_19 => ?_)
      · replace h := h.1 c_19
        refine z_aload_n (pc := 25) dX6_damp_25 rfl ?_
        refine z_aload_n (pc := 26) dX6_damp_26 rfl ?_
        refine k_getr (pc := 27) (j := 3) zc6 dX6_damp_27 fl_X6_29 (by decide) rfl (by decide) rfl (k2 := 12) rfl ?_
        refine z_iload_n (pc := 30) dX6_damp_30 rfl ?_
        refine z_iload_n (pc := 31) dX6_damp_31 rfl ?_
        refine z_iload_n (pc := 32) dX6_damp_32 rfl ?_
        refine k_cVi (pc := 33) (av := [.int p1, .int p2, .int p3]) zc2 rfl dX6_damp_33 lk_X6_183 rfl (by decide) (by decide) (by decide) rfl rfl h (fun r2 f2 h => ?_)
        refine z_iload (pc := 36) dX6_damp_36 rfl ?_
        refine k_cVi (pc := 38) (av := [.int r2, .int p4]) zc6 rfl dX6_damp_38 lk_X6_187 rfl (by decide) (by decide) (by decide) rfl rfl h (fun r3 f3 h => ?_)
        exact k_iret (pc := 41) hX dX6_damp_41 rfl rfl h
      · replace h := h.2 c_19
        refine z_ldc (pc := 22) (v := -1000001) dX6_damp_22 co_X6_52 ?_
        exact k_iret (pc := 24) hX dX6_damp_24 rfl rfl h
set_option maxRecDepth 20000 in
theorem w_X6_over {f : zF} {K : Int32 → zF → Prop} {p1 : Int32} {p2 : Int32} {p3 : Int32} (h : ci mX2_hasLetter [.ref 12, .int p1] f (fun r1 f1 => ((r1 = 0 → K (-1000001) f1) ∧ (¬ r1 = 0 → ci mX2_hasLetter [.ref 12, .int p2] f1 (fun r2 f2 => ((¬ r2 = 0 → ci mX2_cellsOf [.ref 12, .int p1] f2 (fun r3 f3 => ci mX2_cellsOf [.ref 12, .int p2] f3 (fun r4 f4 => ci mX6_cellsOrReading [.ref 0, .int (r3 ||| r4), .int p3] f4 (fun r5 f5 => K r5 f5)))) ∧ (r2 = 0 → K (-1000001) f2))))))) : ci mX6_over [.ref 0, .int p1, .int p2, .int p3] f K := by
  refine ci_of (by decide) (Nat.le_of_ble_eq_true rfl) (fun X hX => ?_)
  refine z_aload_n (pc := 0) dX6_over_0 rfl ?_
  refine k_getr (pc := 1) (j := 3) zc6 dX6_over_1 fl_X6_29 (by decide) rfl (by decide) rfl (k2 := 12) rfl ?_
  refine z_iload_n (pc := 4) dX6_over_4 rfl ?_
  refine k_cVi (pc := 5) (av := [.int p1]) zc2 rfl dX6_over_5 lk_X6_130 rfl (by decide) (by decide) (by decide) rfl rfl h (fun r1 f1 h => ?_)
  refine z_if_eq (pc := 8) (t := 22) dX6_over_8 (by decide) (fun c_8 => ?_) (fun c_8 => ?_)
  · replace h := h.1 c_8
    refine z_ldc (pc := 22) (v := -1000001) dX6_over_22 co_X6_52 ?_
    exact k_iret (pc := 24) hX dX6_over_24 rfl rfl h
  · replace h := h.2 c_8
    refine z_aload_n (pc := 11) dX6_over_11 rfl ?_
    refine k_getr (pc := 12) (j := 3) zc6 dX6_over_12 fl_X6_29 (by decide) rfl (by decide) rfl (k2 := 12) rfl ?_
    refine z_iload_n (pc := 15) dX6_over_15 rfl ?_
    refine k_cVi (pc := 16) (av := [.int p2]) zc2 rfl dX6_over_16 lk_X6_130 rfl (by decide) (by decide) (by decide) rfl rfl h (fun r2 f2 h => ?_)
    refine z_if_ne (pc := 19) (t := 25) dX6_over_19 (by decide) (fun c_19 => ?_) (fun c_19 => ?_)
    · replace h := h.1 c_19
      refine z_aload_n (pc := 25) dX6_over_25 rfl ?_
      refine z_aload_n (pc := 26) dX6_over_26 rfl ?_
      refine k_getr (pc := 27) (j := 3) zc6 dX6_over_27 fl_X6_29 (by decide) rfl (by decide) rfl (k2 := 12) rfl ?_
      refine z_iload_n (pc := 30) dX6_over_30 rfl ?_
      refine k_cVi (pc := 31) (av := [.int p1]) zc2 rfl dX6_over_31 lk_X6_168 rfl (by decide) (by decide) (by decide) rfl rfl h (fun r3 f3 h => ?_)
      refine z_aload_n (pc := 34) dX6_over_34 rfl ?_
      refine k_getr (pc := 35) (j := 3) zc6 dX6_over_35 fl_X6_29 (by decide) rfl (by decide) rfl (k2 := 12) rfl ?_
      refine z_iload_n (pc := 38) dX6_over_38 rfl ?_
      refine k_cVi (pc := 39) (av := [.int p2]) zc2 rfl dX6_over_39 lk_X6_168 rfl (by decide) (by decide) (by decide) rfl rfl h (fun r4 f4 h => ?_)
      refine z_ior (pc := 42) dX6_over_42 ?_
      refine z_iload_n (pc := 43) dX6_over_43 rfl ?_
      refine k_cVi (pc := 44) (av := [.int (r3 ||| r4), .int p3]) zc6 rfl dX6_over_44 lk_X6_187 rfl (by decide) (by decide) (by decide) rfl rfl h (fun r5 f5 h => ?_)
      exact k_iret (pc := 47) hX dX6_over_47 rfl rfl h
    · replace h := h.2 c_19
      refine z_ldc (pc := 22) (v := -1000001) dX6_over_22 co_X6_52 ?_
      exact k_iret (pc := 24) hX dX6_over_24 rfl rfl h
set_option maxRecDepth 20000 in
theorem w_X7_anew {f : zF} {K : Int32 → zF → Prop} {p1 : Int32} (h : ∀ X, kR X (zRi K) → ci mX7_barred [.ref 52, .int p1, .int 1] (zup f 52 0 0) (fun r1 f1 => ((0 ≤ r1 → Z X mX7_anew 26 [(0, .ref 52), (1, .int p1), (2, .int r1), (3, .int 0), (4, .int 1), (5, .int 0)] [] (zC f1)) ∧ (¬ 0 ≤ r1 → K r1 f1)))) : ci mX7_anew [.ref 52, .int p1] f K := by
  refine ci_of (by decide) (Nat.le_of_ble_eq_true rfl) (fun X hX => ?_)
  replace h := h X hX
  refine z_aload_n (pc := 0) dX7_anew_0 rfl ?_
  refine z_iconst (pc := 1) (v := 0) dX7_anew_1 ic_0 ?_
  refine k_puti (pc := 2) (j := 0) zc7 dX7_anew_2 fl_X7_41 (by decide) rfl rfl rfl (by decide) rfl ?_
  refine z_aload_n (pc := 5) dX7_anew_5 rfl ?_
  refine z_iload_n (pc := 6) dX7_anew_6 rfl ?_
  refine z_iconst (pc := 7) (v := 1) dX7_anew_7 ic_1 ?_
  refine k_cVi (pc := 8) (av := [.int p1, .int 1]) zc7 rfl dX7_anew_8 lk_X7_229 rfl (by decide) (by decide) (by decide) rfl rfl h (fun r1 f1 h => ?_)
  refine z_istore_n (pc := 11) (lv' := [(2, .int r1), (0, .ref 52), (1, .int p1)]) dX7_anew_11 (Nat.le_of_ble_eq_true rfl) rfl ?_
  refine z_iload_n (pc := 12) dX7_anew_12 rfl ?_
  refine z_if_ge (pc := 13) (t := 18) dX7_anew_13 (by decide) (fun c_13 => ?_) (fun c_13 => ?_)
  · replace h := h.1 c_13
    refine z_iconst (pc := 18) (v := 0) dX7_anew_18 ic_0 ?_
    refine z_istore_n (pc := 19) (lv' := [(3, .int 0), (2, .int r1), (0, .ref 52), (1, .int p1)]) dX7_anew_19 (Nat.le_of_ble_eq_true rfl) rfl ?_
    refine z_iconst (pc := 20) (v := 1) dX7_anew_20 ic_1 ?_
    refine z_istore (pc := 21) (lv' := [(4, .int 1), (3, .int 0), (2, .int r1), (0, .ref 52), (1, .int p1)]) dX7_anew_21 (Nat.le_of_ble_eq_true rfl) rfl ?_
    refine z_iconst (pc := 23) (v := 0) dX7_anew_23 ic_0 ?_
    refine z_istore (pc := 24) (lv' := [(5, .int 0), (4, .int 1), (3, .int 0), (2, .int r1), (0, .ref 52), (1, .int p1)]) dX7_anew_24 (Nat.le_of_ble_eq_true rfl) rfl ?_
    exact z_sub [4, 5, 3, 2, 1, 0] rfl h
  · replace h := h.2 c_13
    refine z_iload_n (pc := 16) dX7_anew_16 rfl ?_
    exact k_iret (pc := 17) hX dX7_anew_17 rfl rfl h
set_option maxRecDepth 20000 in
theorem l_X7_anew_26 {X : zX} {f : zF} {K : Int32 → zF → Prop}  {x1 x2 x3 x4 x5 : Int32}  (hX : kR X (zRi K)) (h : (((f 56 2) ≤ x5 → ((x4 = 0 → K (-1000000) f) ∧ (¬ x4 = 0 → K x3 f))) ∧ (¬ (f 56 2) ≤ x5 → (vp_in ((40 * x1) + x5) 320 ∧ ci mX7_anewAt [.ref 52, .int x5, .int (f 55 (Int32.toNatClampNeg ((40 * x1) + x5)))] f (fun r102 f102 => (∀ z103 : Int32, z103 = (if x4 = 0 then 0 else (if 3 ≤ r102 then 0 else 1)) → Z X mX7_anew 26 [(0, .ref 52), (1, .int x1), (2, .int x2), (3, .int (x3 + r102)), (4, .int z103), (5, .int (x5 + 1))] [] (zC f102))))))) : Z X mX7_anew 26 [(0, .ref 52), (1, .int x1), (2, .int x2), (3, .int x3), (4, .int x4), (5, .int x5)] [] (zC f) := by
  refine z_iload (pc := 26) dX7_anew_26 rfl ?_
  refine z_aload_n (pc := 28) dX7_anew_28 rfl ?_
  refine k_getr (pc := 29) (j := 5) zc7 dX7_anew_29 fl_X7_19 (by decide) rfl (by decide) rfl (k2 := 56) rfl ?_
  refine z_iconst (pc := 32) (v := 2) dX7_anew_32 ic_2 ?_
  refine k_iald (pc := 33) (j := 2) (v := (f 56 2)) dX7_anew_33 (by decide) rfl (by unfold vp_in; decide) (by decide) rfl ?_
  refine z_icmp_ge (pc := 34) (t := 86) dX7_anew_34 (by decide) (fun c_34 => ?_) (fun c_34 => ?_)
  · replace h := h.1 c_34
    refine z_iload (pc := 86) dX7_anew_86 rfl ?_
    refine z_if_eq (pc := 88) (t := 95) dX7_anew_88 (by decide) (fun c_88 => ?_) (fun c_88 => ?_)
    · replace h := h.1 c_88
      refine z_ldc (pc := 95) (v := -1000000) dX7_anew_95 co_X7_77 ?_
      exact k_iret (pc := 97) hX dX7_anew_97 rfl rfl h
    · replace h := h.2 c_88
      refine z_iload_n (pc := 91) dX7_anew_91 rfl ?_
      refine z_goto (pc := 92) (t := 97) dX7_anew_92 (by decide) ?_
      exact k_iret (pc := 97) hX dX7_anew_97 rfl rfl h
  · replace h := h.2 c_34
    refine z_aload_n (pc := 37) dX7_anew_37 rfl ?_
    refine z_iload (pc := 38) dX7_anew_38 rfl ?_
    refine z_aload_n (pc := 40) dX7_anew_40 rfl ?_
    refine k_getr (pc := 41) (j := 4) zc7 dX7_anew_41 fl_X7_16 (by decide) rfl (by decide) rfl (k2 := 55) rfl ?_
    refine z_bipush (pc := 44) (v := 40) dX7_anew_44 bi_40 ?_
    refine z_iload_n (pc := 46) dX7_anew_46 rfl ?_
    refine z_imul (pc := 47) dX7_anew_47 ?_
    refine z_iload (pc := 48) dX7_anew_48 rfl ?_
    refine z_iadd (pc := 50) dX7_anew_50 ?_
    refine k_iald (pc := 51) (j := (Int32.toNatClampNeg ((40 * x1) + x5))) (v := (f 55 (Int32.toNatClampNeg ((40 * x1) + x5)))) dX7_anew_51 (by decide) rfl h.1 rfl rfl ?_
    replace h := h.2
    refine k_cVi (pc := 52) (av := [.int x5, .int (f 55 (Int32.toNatClampNeg ((40 * x1) + x5)))]) zc7 rfl dX7_anew_52 lk_X7_236 rfl (by decide) (by decide) (by decide) rfl rfl h (fun r102 f102 h => ?_)
    refine z_istore (pc := 55) (lv' := [(6, .int r102), (0, .ref 52), (1, .int x1), (2, .int x2), (3, .int x3), (4, .int x4), (5, .int x5)]) dX7_anew_55 (Nat.le_of_ble_eq_true rfl) rfl ?_
    refine z_iload (pc := 57) dX7_anew_57 rfl ?_
    suffices hm104 : Z X mX7_anew 73 [(6, .int r102), (0, .ref 52), (1, .int x1), (2, .int x2), (3, .int x3), (4, .int x4), (5, .int x5)] [.int (if x4 = 0 then 0 else (if 3 ≤ r102 then 0 else 1))] (zC f102) by
      refine z_if_eq (pc := 59) (t := 72) dX7_anew_59 (by decide) (fun c_59 => ?_) (fun c_59 => ?_)
      · rw [if_pos c_59] at hm104
        refine z_iconst (pc := 72) (v := 0) dX7_anew_72 ic_0 ?_
        exact hm104
      · rw [if_neg c_59] at hm104
        refine z_iload (pc := 62) dX7_anew_62 rfl ?_
        refine z_iconst (pc := 64) (v := 3) dX7_anew_64 ic_3 ?_
        refine z_icmp_ge (pc := 65) (t := 72) dX7_anew_65 (by decide) (fun c_65 => ?_) (fun c_65 => ?_)
        · rw [if_pos c_65] at hm104
          refine z_iconst (pc := 72) (v := 0) dX7_anew_72 ic_0 ?_
          exact hm104
        · rw [if_neg c_65] at hm104
          refine z_iconst (pc := 68) (v := 1) dX7_anew_68 ic_1 ?_
          refine z_goto (pc := 69) (t := 73) dX7_anew_69 (by decide) ?_
          exact hm104
    refine z_name (fun z103 e_z103 => ?_)
    replace h := h z103 e_z103
    refine z_istore (pc := 73) (lv' := [(4, .int z103), (6, .int r102), (0, .ref 52), (1, .int x1), (2, .int x2), (3, .int x3), (5, .int x5)]) dX7_anew_73 (Nat.le_of_ble_eq_true rfl) rfl ?_
    refine z_iload_n (pc := 75) dX7_anew_75 rfl ?_
    refine z_iload (pc := 76) dX7_anew_76 rfl ?_
    refine z_iadd (pc := 78) dX7_anew_78 ?_
    refine z_istore_n (pc := 79) (lv' := [(3, .int (x3 + r102)), (4, .int z103), (6, .int r102), (0, .ref 52), (1, .int x1), (2, .int x2), (5, .int x5)]) dX7_anew_79 (Nat.le_of_ble_eq_true rfl) rfl ?_
    refine z_iinc (pc := 80) (v := (x5 + 1)) (lv' := [(5, .int (x5 + 1)), (3, .int (x3 + r102)), (4, .int z103), (6, .int r102), (0, .ref 52), (1, .int x1), (2, .int x2)]) dX7_anew_80 rfl (congrArg (fun z => x5 + z) ic_1) (Nat.le_of_ble_eq_true rfl) rfl ?_
    refine z_goto (pc := 83) (t := 26) dX7_anew_83 (by decide) ?_
    exact z_sub [4, 5, 6, 1, 2, 0] rfl h
set_option maxRecDepth 20000 in
theorem w_X7_behind {f : zF} {K : Int32 → zF → Prop} {p1 : Int32} {p2 : Int32} (h : ci mX7_isPlace [.ref 52, .int p2] (zup f 52 0 0) (fun r1 f1 => ci mX7_barred [.ref 52, .int p1, .int r1] f1 (fun r2 f2 => ((0 ≤ r2 → ci mX7_on [.ref 52, .int 0, .int p2] f2 (fun r3 f3 => (vp_in ((40 * p1) + p2) 320 ∧ ci mX7_behindBy [.ref 52, .int r3, .int (f3 55 (Int32.toNatClampNeg ((40 * p1) + p2)))] f3 (fun r4 f4 => K r4 f4)))) ∧ (¬ 0 ≤ r2 → K r2 f2))))) : ci mX7_behind [.ref 52, .int p1, .int p2] f K := by
  refine ci_of (by decide) (Nat.le_of_ble_eq_true rfl) (fun X hX => ?_)
  refine z_aload_n (pc := 0) dX7_behind_0 rfl ?_
  refine z_iconst (pc := 1) (v := 0) dX7_behind_1 ic_0 ?_
  refine k_puti (pc := 2) (j := 0) zc7 dX7_behind_2 fl_X7_41 (by decide) rfl rfl rfl (by decide) rfl ?_
  refine z_aload_n (pc := 5) dX7_behind_5 rfl ?_
  refine z_iload_n (pc := 6) dX7_behind_6 rfl ?_
  refine z_aload_n (pc := 7) dX7_behind_7 rfl ?_
  refine z_iload_n (pc := 8) dX7_behind_8 rfl ?_
  refine k_cVi (pc := 9) (av := [.int p2]) zc7 rfl dX7_behind_9 lk_X7_200 rfl (by decide) (by decide) (by decide) rfl rfl h (fun r1 f1 h => ?_)
  refine k_cVi (pc := 12) (av := [.int p1, .int r1]) zc7 rfl dX7_behind_12 lk_X7_229 rfl (by decide) (by decide) (by decide) rfl rfl h (fun r2 f2 h => ?_)
  refine z_istore_n (pc := 15) (lv' := [(3, .int r2), (0, .ref 52), (1, .int p1), (2, .int p2)]) dX7_behind_15 (Nat.le_of_ble_eq_true rfl) rfl ?_
  refine z_iload_n (pc := 16) dX7_behind_16 rfl ?_
  refine z_if_ge (pc := 17) (t := 24) dX7_behind_17 (by decide) (fun c_17 => ?_) (fun c_17 => ?_)
  · replace h := h.1 c_17
    refine z_aload_n (pc := 24) dX7_behind_24 rfl ?_
    refine z_aload_n (pc := 25) dX7_behind_25 rfl ?_
    refine z_iconst (pc := 26) (v := 0) dX7_behind_26 ic_0 ?_
    refine z_iload_n (pc := 27) dX7_behind_27 rfl ?_
    refine k_cVi (pc := 28) (av := [.int 0, .int p2]) zc7 rfl dX7_behind_28 lk_X7_170 rfl (by decide) (by decide) (by decide) rfl rfl h (fun r3 f3 h => ?_)
    refine z_aload_n (pc := 31) dX7_behind_31 rfl ?_
    refine k_getr (pc := 32) (j := 4) zc7 dX7_behind_32 fl_X7_16 (by decide) rfl (by decide) rfl (k2 := 55) rfl ?_
    refine z_bipush (pc := 35) (v := 40) dX7_behind_35 bi_40 ?_
    refine z_iload_n (pc := 37) dX7_behind_37 rfl ?_
    refine z_imul (pc := 38) dX7_behind_38 ?_
    refine z_iload_n (pc := 39) dX7_behind_39 rfl ?_
    refine z_iadd (pc := 40) dX7_behind_40 ?_
    refine k_iald (pc := 41) (j := (Int32.toNatClampNeg ((40 * p1) + p2))) (v := (f3 55 (Int32.toNatClampNeg ((40 * p1) + p2)))) dX7_behind_41 (by decide) rfl h.1 rfl rfl ?_
    replace h := h.2
    refine k_cVi (pc := 42) (av := [.int r3, .int (f3 55 (Int32.toNatClampNeg ((40 * p1) + p2)))]) zc7 rfl dX7_behind_42 lk_X7_233 rfl (by decide) (by decide) (by decide) rfl rfl h (fun r4 f4 h => ?_)
    exact k_iret (pc := 45) hX dX7_behind_45 rfl rfl h
  · replace h := h.2 c_17
    refine z_iload_n (pc := 20) dX7_behind_20 rfl ?_
    refine z_goto (pc := 21) (t := 45) dX7_behind_21 (by decide) ?_
    exact k_iret (pc := 45) hX dX7_behind_45 rfl rfl h
set_option maxRecDepth 20000 in
theorem w_X7_harm {f : zF} {K : Int32 → zF → Prop} {p1 : Int32} (h : ci mX7_barred [.ref 52, .int p1, .int 1] (zup f 52 0 0) (fun r1 f1 => ((0 ≤ r1 → ci mX7_harmOf [.ref 52, .int p1] f1 (fun r2 f2 => K r2 f2)) ∧ (¬ 0 ≤ r1 → K r1 f1)))) : ci mX7_harm [.ref 52, .int p1] f K := by
  refine ci_of (by decide) (Nat.le_of_ble_eq_true rfl) (fun X hX => ?_)
  refine z_aload_n (pc := 0) dX7_harm_0 rfl ?_
  refine z_iconst (pc := 1) (v := 0) dX7_harm_1 ic_0 ?_
  refine k_puti (pc := 2) (j := 0) zc7 dX7_harm_2 fl_X7_41 (by decide) rfl rfl rfl (by decide) rfl ?_
  refine z_aload_n (pc := 5) dX7_harm_5 rfl ?_
  refine z_iload_n (pc := 6) dX7_harm_6 rfl ?_
  refine z_iconst (pc := 7) (v := 1) dX7_harm_7 ic_1 ?_
  refine k_cVi (pc := 8) (av := [.int p1, .int 1]) zc7 rfl dX7_harm_8 lk_X7_229 rfl (by decide) (by decide) (by decide) rfl rfl h (fun r1 f1 h => ?_)
  refine z_istore_n (pc := 11) (lv' := [(2, .int r1), (0, .ref 52), (1, .int p1)]) dX7_harm_11 (Nat.le_of_ble_eq_true rfl) rfl ?_
  refine z_iload_n (pc := 12) dX7_harm_12 rfl ?_
  refine z_if_ge (pc := 13) (t := 20) dX7_harm_13 (by decide) (fun c_13 => ?_) (fun c_13 => ?_)
  · replace h := h.1 c_13
    refine z_aload_n (pc := 20) dX7_harm_20 rfl ?_
    refine z_iload_n (pc := 21) dX7_harm_21 rfl ?_
    refine k_cVi (pc := 22) (av := [.int p1]) zc7 rfl dX7_harm_22 lk_X7_239 rfl (by decide) (by decide) (by decide) rfl rfl h (fun r2 f2 h => ?_)
    exact k_iret (pc := 25) hX dX7_harm_25 rfl rfl h
  · replace h := h.2 c_13
    refine z_iload_n (pc := 16) dX7_harm_16 rfl ?_
    refine z_goto (pc := 17) (t := 25) dX7_harm_17 (by decide) ?_
    exact k_iret (pc := 25) hX dX7_harm_25 rfl rfl h
set_option maxRecDepth 20000 in
theorem w_X7_leastHarm {f : zF} {K : Int32 → zF → Prop} {p1 : Int32} (h : ∀ X, kR X (zRi K) → ci mX7_isThere [.ref 52] (zup f 52 0 0) (fun r1 f1 => ((¬ r1 = 0 → ci mX7_in [.long (Int32.toInt64 p1), .long 0, .long 255] f1 (fun r2 f2 => ((¬ r2 = 0 → Z X mX7_leastHarm 35 [(0, .ref 52), (1, .int p1), (2, .int (-1000000)), (3, .int 0)] [] (zC f2)) ∧ (r2 = 0 → K (-1000001) f2)))) ∧ (r1 = 0 → K (-1000002) f1)))) : ci mX7_leastHarm [.ref 52, .int p1] f K := by
  refine ci_of (by decide) (Nat.le_of_ble_eq_true rfl) (fun X hX => ?_)
  replace h := h X hX
  refine z_aload_n (pc := 0) dX7_leastHarm_0 rfl ?_
  refine z_iconst (pc := 1) (v := 0) dX7_leastHarm_1 ic_0 ?_
  refine k_puti (pc := 2) (j := 0) zc7 dX7_leastHarm_2 fl_X7_41 (by decide) rfl rfl rfl (by decide) rfl ?_
  refine z_aload_n (pc := 5) dX7_leastHarm_5 rfl ?_
  refine k_cVi (pc := 6) (av := []) zc7 rfl dX7_leastHarm_6 lk_X7_209 rfl (by decide) (by decide) (by decide) rfl rfl h (fun r1 f1 h => ?_)
  refine z_if_ne (pc := 9) (t := 15) dX7_leastHarm_9 (by decide) (fun c_9 => ?_) (fun c_9 => ?_)
  · replace h := h.1 c_9
    refine z_iload_n (pc := 15) dX7_leastHarm_15 rfl ?_
    refine z_i2l (pc := 16) dX7_leastHarm_16 ?_
    refine z_lconst (pc := 17) (v := 0) dX7_leastHarm_17 rfl ?_
    refine z_ldc2 (pc := 18) (v := 255) dX7_leastHarm_18 co_X7_72 ?_
    refine k_cSi (pc := 21) (av := [.long (Int32.toInt64 p1), .long 0, .long 255]) dX7_leastHarm_21 lk_X7_51 rfl (by decide) (by decide) rfl h (fun r2 f2 h => ?_)
    refine z_if_ne (pc := 24) (t := 30) dX7_leastHarm_24 (by decide) (fun c_24 => ?_) (fun c_24 => ?_)
    · replace h := h.1 c_24
      refine z_ldc (pc := 30) (v := -1000000) dX7_leastHarm_30 co_X7_77 ?_
      refine z_istore_n (pc := 32) (lv' := [(2, .int (-1000000)), (0, .ref 52), (1, .int p1)]) dX7_leastHarm_32 (Nat.le_of_ble_eq_true rfl) rfl ?_
      refine z_iconst (pc := 33) (v := 0) dX7_leastHarm_33 ic_0 ?_
      refine z_istore_n (pc := 34) (lv' := [(3, .int 0), (2, .int (-1000000)), (0, .ref 52), (1, .int p1)]) dX7_leastHarm_34 (Nat.le_of_ble_eq_true rfl) rfl ?_
      exact z_sub [2, 3, 1, 0] rfl h
    · replace h := h.2 c_24
      refine z_ldc (pc := 27) (v := -1000001) dX7_leastHarm_27 co_X7_61 ?_
      exact k_iret (pc := 29) hX dX7_leastHarm_29 rfl rfl h
  · replace h := h.2 c_9
    refine z_ldc (pc := 12) (v := -1000002) dX7_leastHarm_12 co_X7_213 ?_
    exact k_iret (pc := 14) hX dX7_leastHarm_14 rfl rfl h
set_option maxRecDepth 20000 in
theorem l_X7_leastHarm_35 {X : zX} {f : zF} {K : Int32 → zF → Prop}  {x1 x2 x3 : Int32}  (hX : kR X (zRi K)) (h : ((8 ≤ x3 → K x2 f) ∧ (¬ 8 ≤ x3 → ((¬ ((x1 >>> (x3 &&& 31)) &&& 1) = 1 → Z X mX7_leastHarm 35 [(0, .ref 52), (1, .int x1), (2, .int x2), (3, .int (x3 + 1))] [] (zC f)) ∧ (((x1 >>> (x3 &&& 31)) &&& 1) = 1 → (vp_in x3 8 ∧ (((f 53 (Int32.toNatClampNeg x3)) < 0 → Z X mX7_leastHarm 35 [(0, .ref 52), (1, .int x1), (2, .int x2), (3, .int (x3 + 1))] [] (zC f)) ∧ (¬ (f 53 (Int32.toNatClampNeg x3)) < 0 → (vp_in x3 8 ∧ (((f 54 (Int32.toNatClampNeg x3)) < (f 56 2) → Z X mX7_leastHarm 35 [(0, .ref 52), (1, .int x1), (2, .int x2), (3, .int (x3 + 1))] [] (zC f)) ∧ (¬ (f 54 (Int32.toNatClampNeg x3)) < (f 56 2) → ci mX7_hasLetters [.ref 52, .int x3] f (fun r103 f103 => (∀ z104 : Int32, z104 = (if r103 = 0 then 0 else 1) → ((z104 = 0 → Z X mX7_leastHarm 35 [(0, .ref 52), (1, .int x1), (2, .int x2), (3, .int (x3 + 1))] [] (zC f103)) ∧ (¬ z104 = 0 → ((x2 = (-1000000) → Z X mX7_leastHarm 35 [(0, .ref 52), (1, .int x1), (2, .int x3), (3, .int (x3 + 1))] [] (zC f103)) ∧ (¬ x2 = (-1000000) → ci mX7_harmOf [.ref 52, .int x3] f103 (fun r105 f105 => ci mX7_harmOf [.ref 52, .int x2] f105 (fun r106 f106 => (∀ z107 : Int32, z107 = (if r106 ≤ r105 then x2 else x3) → Z X mX7_leastHarm 35 [(0, .ref 52), (1, .int x1), (2, .int z107), (3, .int (x3 + 1))] [] (zC f106))))))))))))))))))))) : Z X mX7_leastHarm 35 [(0, .ref 52), (1, .int x1), (2, .int x2), (3, .int x3)] [] (zC f) := by
  refine z_iload_n (pc := 35) dX7_leastHarm_35 rfl ?_
  refine z_bipush (pc := 36) (v := 8) dX7_leastHarm_36 bi_8 ?_
  refine z_icmp_ge (pc := 38) (t := 125) dX7_leastHarm_38 (by decide) (fun c_38 => ?_) (fun c_38 => ?_)
  · replace h := h.1 c_38
    refine z_iload_n (pc := 125) dX7_leastHarm_125 rfl ?_
    exact k_iret (pc := 126) hX dX7_leastHarm_126 rfl rfl h
  · replace h := h.2 c_38
    refine z_iload_n (pc := 41) dX7_leastHarm_41 rfl ?_
    refine z_iload_n (pc := 42) dX7_leastHarm_42 rfl ?_
    refine z_ishr (pc := 43) dX7_leastHarm_43 ?_
    refine z_iconst (pc := 44) (v := 1) dX7_leastHarm_44 ic_1 ?_
    refine z_iand (pc := 45) dX7_leastHarm_45 ?_
    refine z_iconst (pc := 46) (v := 1) dX7_leastHarm_46 ic_1 ?_
    refine z_icmp_ne (pc := 47) (t := 86) dX7_leastHarm_47 (by decide) (fun c_47 => ?_) (fun c_47 => ?_)
    · replace h := h.1 c_47
      refine z_iconst (pc := 86) (v := 0) dX7_leastHarm_86 ic_0 ?_
      refine z_istore (pc := 87) (lv' := [(4, .int 0), (0, .ref 52), (1, .int x1), (2, .int x2), (3, .int x3)]) dX7_leastHarm_87 (Nat.le_of_ble_eq_true rfl) rfl ?_
      refine z_iload (pc := 89) dX7_leastHarm_89 rfl ?_
      refine z_if_eq (pc := 91) (t := 117) dX7_leastHarm_91 (by decide) (fun c_91 => ?_) (fun c_91 => ?_)
      · refine z_iload_n (pc := 117) dX7_leastHarm_117 rfl ?_
        refine z_istore_n (pc := 118) (lv' := [(2, .int x2), (4, .int 0), (0, .ref 52), (1, .int x1), (3, .int x3)]) dX7_leastHarm_118 (Nat.le_of_ble_eq_true rfl) rfl ?_
        refine z_iinc (pc := 119) (v := (x3 + 1)) (lv' := [(3, .int (x3 + 1)), (2, .int x2), (4, .int 0), (0, .ref 52), (1, .int x1)]) dX7_leastHarm_119 rfl (congrArg (fun z => x3 + z) ic_1) (Nat.le_of_ble_eq_true rfl) rfl ?_
        refine z_goto (pc := 122) (t := 35) dX7_leastHarm_122 (by decide) ?_
        exact z_sub [3, 4, 1, 0] rfl h
      · exact absurd c_91 (by decide)
    · replace h := h.2 c_47
      refine z_aload_n (pc := 50) dX7_leastHarm_50 rfl ?_
      refine k_getr (pc := 51) (j := 2) zc7 dX7_leastHarm_51 fl_X7_7 (by decide) rfl (by decide) rfl (k2 := 53) rfl ?_
      refine z_iload_n (pc := 54) dX7_leastHarm_54 rfl ?_
      refine k_iald (pc := 55) (j := (Int32.toNatClampNeg x3)) (v := (f 53 (Int32.toNatClampNeg x3))) dX7_leastHarm_55 (by decide) rfl h.1 rfl rfl ?_
      replace h := h.2
      refine z_if_lt (pc := 56) (t := 86) dX7_leastHarm_56 (by decide) (fun c_56 => ?_) (fun c_56 => ?_)
      · replace h := h.1 c_56
        refine z_iconst (pc := 86) (v := 0) dX7_leastHarm_86 ic_0 ?_
        refine z_istore (pc := 87) (lv' := [(4, .int 0), (0, .ref 52), (1, .int x1), (2, .int x2), (3, .int x3)]) dX7_leastHarm_87 (Nat.le_of_ble_eq_true rfl) rfl ?_
        refine z_iload (pc := 89) dX7_leastHarm_89 rfl ?_
        refine z_if_eq (pc := 91) (t := 117) dX7_leastHarm_91 (by decide) (fun c_91 => ?_) (fun c_91 => ?_)
        · refine z_iload_n (pc := 117) dX7_leastHarm_117 rfl ?_
          refine z_istore_n (pc := 118) (lv' := [(2, .int x2), (4, .int 0), (0, .ref 52), (1, .int x1), (3, .int x3)]) dX7_leastHarm_118 (Nat.le_of_ble_eq_true rfl) rfl ?_
          refine z_iinc (pc := 119) (v := (x3 + 1)) (lv' := [(3, .int (x3 + 1)), (2, .int x2), (4, .int 0), (0, .ref 52), (1, .int x1)]) dX7_leastHarm_119 rfl (congrArg (fun z => x3 + z) ic_1) (Nat.le_of_ble_eq_true rfl) rfl ?_
          refine z_goto (pc := 122) (t := 35) dX7_leastHarm_122 (by decide) ?_
          exact z_sub [3, 4, 1, 0] rfl h
        · exact absurd c_91 (by decide)
      · replace h := h.2 c_56
        refine z_aload_n (pc := 59) dX7_leastHarm_59 rfl ?_
        refine k_getr (pc := 60) (j := 3) zc7 dX7_leastHarm_60 fl_X7_13 (by decide) rfl (by decide) rfl (k2 := 54) rfl ?_
        refine z_iload_n (pc := 63) dX7_leastHarm_63 rfl ?_
        refine k_iald (pc := 64) (j := (Int32.toNatClampNeg x3)) (v := (f 54 (Int32.toNatClampNeg x3))) dX7_leastHarm_64 (by decide) rfl h.1 rfl rfl ?_
        replace h := h.2
        refine z_aload_n (pc := 65) dX7_leastHarm_65 rfl ?_
        refine k_getr (pc := 66) (j := 5) zc7 dX7_leastHarm_66 fl_X7_19 (by decide) rfl (by decide) rfl (k2 := 56) rfl ?_
        refine z_iconst (pc := 69) (v := 2) dX7_leastHarm_69 ic_2 ?_
        refine k_iald (pc := 70) (j := 2) (v := (f 56 2)) dX7_leastHarm_70 (by decide) rfl (by unfold vp_in; decide) (by decide) rfl ?_
        refine z_icmp_lt (pc := 71) (t := 86) dX7_leastHarm_71 (by decide) (fun c_71 => ?_) (fun c_71 => ?_)
        · replace h := h.1 c_71
          refine z_iconst (pc := 86) (v := 0) dX7_leastHarm_86 ic_0 ?_
          refine z_istore (pc := 87) (lv' := [(4, .int 0), (0, .ref 52), (1, .int x1), (2, .int x2), (3, .int x3)]) dX7_leastHarm_87 (Nat.le_of_ble_eq_true rfl) rfl ?_
          refine z_iload (pc := 89) dX7_leastHarm_89 rfl ?_
          refine z_if_eq (pc := 91) (t := 117) dX7_leastHarm_91 (by decide) (fun c_91 => ?_) (fun c_91 => ?_)
          · refine z_iload_n (pc := 117) dX7_leastHarm_117 rfl ?_
            refine z_istore_n (pc := 118) (lv' := [(2, .int x2), (4, .int 0), (0, .ref 52), (1, .int x1), (3, .int x3)]) dX7_leastHarm_118 (Nat.le_of_ble_eq_true rfl) rfl ?_
            refine z_iinc (pc := 119) (v := (x3 + 1)) (lv' := [(3, .int (x3 + 1)), (2, .int x2), (4, .int 0), (0, .ref 52), (1, .int x1)]) dX7_leastHarm_119 rfl (congrArg (fun z => x3 + z) ic_1) (Nat.le_of_ble_eq_true rfl) rfl ?_
            refine z_goto (pc := 122) (t := 35) dX7_leastHarm_122 (by decide) ?_
            exact z_sub [3, 4, 1, 0] rfl h
          · exact absurd c_91 (by decide)
        · replace h := h.2 c_71
          refine z_aload_n (pc := 74) dX7_leastHarm_74 rfl ?_
          refine z_iload_n (pc := 75) dX7_leastHarm_75 rfl ?_
          refine k_cVi (pc := 76) (av := [.int x3]) zc7 rfl dX7_leastHarm_76 lk_X7_223 rfl (by decide) (by decide) (by decide) rfl rfl h (fun r103 f103 h => ?_)
          suffices hm109 : Z X mX7_leastHarm 87 [(0, .ref 52), (1, .int x1), (2, .int x2), (3, .int x3)] [.int (if r103 = 0 then 0 else 1)] (zC f103) by
            refine z_if_eq (pc := 79) (t := 86) dX7_leastHarm_79 (by decide) (fun c_79 => ?_) (fun c_79 => ?_)
            · rw [if_pos c_79] at hm109
              refine z_iconst (pc := 86) (v := 0) dX7_leastHarm_86 ic_0 ?_
              exact hm109
            · rw [if_neg c_79] at hm109
              refine z_iconst (pc := 82) (v := 1) dX7_leastHarm_82 ic_1 ?_
              refine z_goto (pc := 83) (t := 87) dX7_leastHarm_83 (by decide) ?_
              exact hm109
          refine z_name (fun z104 e_z104 => ?_)
          replace h := h z104 e_z104
          refine z_istore (pc := 87) (lv' := [(4, .int z104), (0, .ref 52), (1, .int x1), (2, .int x2), (3, .int x3)]) dX7_leastHarm_87 (Nat.le_of_ble_eq_true rfl) rfl ?_
          refine z_iload (pc := 89) dX7_leastHarm_89 rfl ?_
          refine z_if_eq (pc := 91) (t := 117) dX7_leastHarm_91 (by decide) (fun c_91 => ?_) (fun c_91 => ?_)
          · replace h := h.1 c_91
            refine z_iload_n (pc := 117) dX7_leastHarm_117 rfl ?_
            refine z_istore_n (pc := 118) (lv' := [(2, .int x2), (4, .int z104), (0, .ref 52), (1, .int x1), (3, .int x3)]) dX7_leastHarm_118 (Nat.le_of_ble_eq_true rfl) rfl ?_
            refine z_iinc (pc := 119) (v := (x3 + 1)) (lv' := [(3, .int (x3 + 1)), (2, .int x2), (4, .int z104), (0, .ref 52), (1, .int x1)]) dX7_leastHarm_119 rfl (congrArg (fun z => x3 + z) ic_1) (Nat.le_of_ble_eq_true rfl) rfl ?_
            refine z_goto (pc := 122) (t := 35) dX7_leastHarm_122 (by decide) ?_
            exact z_sub [3, 4, 1, 0] rfl h
          · replace h := h.2 c_91
            refine z_iload_n (pc := 94) dX7_leastHarm_94 rfl ?_
            refine z_ldc (pc := 95) (v := -1000000) dX7_leastHarm_95 co_X7_77 ?_
            refine z_icmp_eq (pc := 97) (t := 113) dX7_leastHarm_97 (by decide) (fun c_97 => ?_) (fun c_97 => ?_)
            · replace h := h.1 c_97
              refine z_iload_n (pc := 113) dX7_leastHarm_113 rfl ?_
              refine z_goto (pc := 114) (t := 118) dX7_leastHarm_114 (by decide) ?_
              refine z_istore_n (pc := 118) (lv' := [(2, .int x3), (4, .int z104), (0, .ref 52), (1, .int x1), (3, .int x3)]) dX7_leastHarm_118 (Nat.le_of_ble_eq_true rfl) rfl ?_
              refine z_iinc (pc := 119) (v := (x3 + 1)) (lv' := [(3, .int (x3 + 1)), (2, .int x3), (4, .int z104), (0, .ref 52), (1, .int x1)]) dX7_leastHarm_119 rfl (congrArg (fun z => x3 + z) ic_1) (Nat.le_of_ble_eq_true rfl) rfl ?_
              refine z_goto (pc := 122) (t := 35) dX7_leastHarm_122 (by decide) ?_
              exact z_sub [3, 4, 1, 0] rfl h
            · replace h := h.2 c_97
              refine z_aload_n (pc := 100) dX7_leastHarm_100 rfl ?_
              refine z_iload_n (pc := 101) dX7_leastHarm_101 rfl ?_
              refine k_cVi (pc := 102) (av := [.int x3]) zc7 rfl dX7_leastHarm_102 lk_X7_239 rfl (by decide) (by decide) (by decide) rfl rfl h (fun r105 f105 h => ?_)
              refine z_aload_n (pc := 105) dX7_leastHarm_105 rfl ?_
              refine z_iload_n (pc := 106) dX7_leastHarm_106 rfl ?_
              refine k_cVi (pc := 107) (av := [.int x2]) zc7 rfl dX7_leastHarm_107 lk_X7_239 rfl (by decide) (by decide) (by decide) rfl rfl h (fun r106 f106 h => ?_)
              suffices hm108 : Z X mX7_leastHarm 118 [(4, .int z104), (0, .ref 52), (1, .int x1), (2, .int x2), (3, .int x3)] [.int (if r106 ≤ r105 then x2 else x3)] (zC f106) by
                refine z_icmp_ge (pc := 110) (t := 117) dX7_leastHarm_110 (by decide) (fun c_110 => ?_) (fun c_110 => ?_)
                · rw [if_pos c_110] at hm108
                  refine z_iload_n (pc := 117) dX7_leastHarm_117 rfl ?_
                  exact hm108
                · rw [if_neg c_110] at hm108
                  refine z_iload_n (pc := 113) dX7_leastHarm_113 rfl ?_
                  refine z_goto (pc := 114) (t := 118) dX7_leastHarm_114 (by decide) ?_
                  exact hm108
              refine z_name (fun z107 e_z107 => ?_)
              replace h := h z107 e_z107
              refine z_istore_n (pc := 118) (lv' := [(2, .int z107), (4, .int z104), (0, .ref 52), (1, .int x1), (3, .int x3)]) dX7_leastHarm_118 (Nat.le_of_ble_eq_true rfl) rfl ?_
              refine z_iinc (pc := 119) (v := (x3 + 1)) (lv' := [(3, .int (x3 + 1)), (2, .int z107), (4, .int z104), (0, .ref 52), (1, .int x1)]) dX7_leastHarm_119 rfl (congrArg (fun z => x3 + z) ic_1) (Nat.le_of_ble_eq_true rfl) rfl ?_
              refine z_goto (pc := 122) (t := 35) dX7_leastHarm_122 (by decide) ?_
              exact z_sub [3, 4, 1, 0] rfl h
set_option maxRecDepth 20000 in
theorem w_X7_readFront {f : zF} {K : zF → Prop}  (h : ∀ X, kR X (zRv K) → Z X mX7_readFront 0 [(0, .ref 52)] [] (zC f)) : cv mX7_readFront [.ref 52] f K := by
  refine cv_of (by decide) (Nat.le_of_ble_eq_true rfl) (fun X hX => ?_)
  replace h := h X hX
  exact h
set_option maxRecDepth 20000 in
theorem l_X7_readFront_0 {X : zX} {f : zF} {K : zF → Prop}   (hX : kR X (zRv K)) (h : ((¬ (f 52 17) = 0 → K f) ∧ ((f 52 17) = 0 → ((¬ (f 52 14) = 3 → K f) ∧ ((f 52 14) = 3 → ci mX7_figures [.ref 52] f (fun r101 f101 => ci mX7_in [.long (Int32.toInt64 r101), .long 0, .long (Int32.toInt64 ((f101 57 1) - 1))] f101 (fun r102 f102 => ((r102 = 0 → ci mX7_number [.ref 52, .int 0, .int ((f102 57 1) - 1)] f102 (fun r103 f103 => ((¬ (f103 52 17) = 0 → Z X mX7_readFront 0 [(0, .ref 52)] [] (zC f103)) ∧ ((f103 52 17) = 0 → (vp_in (19 + (f103 57 2)) 37 ∧ (∀ z104 : Int32, z104 = (((zup f103 57 (Int32.toNatClampNeg (19 + (f103 57 2))) r103) 57 2) + 1) → Z X mX7_readFront 0 [(0, .ref 52)] [] (zC (zup (zup f103 57 (Int32.toNatClampNeg (19 + (f103 57 2))) r103) 57 2 z104)))))))) ∧ (¬ r102 = 0 → ((¬ (f102 57 2) = 9 → ci mX7_number [.ref 52, .int 0, .int ((f102 57 1) - 1)] f102 (fun r105 f105 => ((¬ (f105 52 17) = 0 → Z X mX7_readFront 0 [(0, .ref 52)] [] (zC f105)) ∧ ((f105 52 17) = 0 → (vp_in (19 + (f105 57 2)) 37 ∧ (∀ z106 : Int32, z106 = (((zup f105 57 (Int32.toNatClampNeg (19 + (f105 57 2))) r105) 57 2) + 1) → Z X mX7_readFront 0 [(0, .ref 52)] [] (zC (zup (zup f105 57 (Int32.toNatClampNeg (19 + (f105 57 2))) r105) 57 2 z106)))))))) ∧ ((f102 57 2) = 9 → cv mX7_bad [.ref 52, .int 3] f102 (fun f107 => ci mX7_number [.ref 52, .int 0, .int ((f107 57 1) - 1)] f107 (fun r108 f108 => ((¬ (f108 52 17) = 0 → Z X mX7_readFront 0 [(0, .ref 52)] [] (zC f108)) ∧ ((f108 52 17) = 0 → (vp_in (19 + (f108 57 2)) 37 ∧ (∀ z109 : Int32, z109 = (((zup f108 57 (Int32.toNatClampNeg (19 + (f108 57 2))) r108) 57 2) + 1) → Z X mX7_readFront 0 [(0, .ref 52)] [] (zC (zup (zup f108 57 (Int32.toNatClampNeg (19 + (f108 57 2))) r108) 57 2 z109))))))))))))))))))) : Z X mX7_readFront 0 [(0, .ref 52)] [] (zC f) := by
  refine z_aload_n (pc := 0) dX7_readFront_0 rfl ?_
  refine k_geti (pc := 1) (j := 17) zc7 dX7_readFront_1 fl_X7_99 (by decide) rfl (by decide) rfl (v := (f 52 17)) rfl ?_
  refine z_if_ne (pc := 4) (t := 101) dX7_readFront_4 (by decide) (fun c_4 => ?_) (fun c_4 => ?_)
  · replace h := h.1 c_4
    exact k_vret (pc := 101) hX dX7_readFront_101 rfl h
  · replace h := h.2 c_4
    refine z_aload_n (pc := 7) dX7_readFront_7 rfl ?_
    refine k_geti (pc := 8) (j := 14) zc7 dX7_readFront_8 fl_X7_87 (by decide) rfl (by decide) rfl (v := (f 52 14)) rfl ?_
    refine z_iconst (pc := 11) (v := 3) dX7_readFront_11 ic_3 ?_
    refine z_icmp_ne (pc := 12) (t := 101) dX7_readFront_12 (by decide) (fun c_12 => ?_) (fun c_12 => ?_)
    · replace h := h.1 c_12
      exact k_vret (pc := 101) hX dX7_readFront_101 rfl h
    · replace h := h.2 c_12
      refine z_aload_n (pc := 15) dX7_readFront_15 rfl ?_
      refine k_cVi (pc := 16) (av := []) zc7 rfl dX7_readFront_16 lk_X7_112 rfl (by decide) (by decide) (by decide) rfl rfl h (fun r101 f101 h => ?_)
      refine z_i2l (pc := 19) dX7_readFront_19 ?_
      refine z_lconst (pc := 20) (v := 0) dX7_readFront_20 rfl ?_
      refine z_aload_n (pc := 21) dX7_readFront_21 rfl ?_
      refine k_getr (pc := 22) (j := 6) zc7 dX7_readFront_22 fl_X7_22 (by decide) rfl (by decide) rfl (k2 := 57) rfl ?_
      refine z_iconst (pc := 25) (v := 1) dX7_readFront_25 ic_1 ?_
      refine k_iald (pc := 26) (j := 1) (v := (f101 57 1)) dX7_readFront_26 (by decide) rfl (by unfold vp_in; decide) (by decide) rfl ?_
      refine z_iconst (pc := 27) (v := 1) dX7_readFront_27 ic_1 ?_
      refine z_isub (pc := 28) dX7_readFront_28 ?_
      refine z_i2l (pc := 29) dX7_readFront_29 ?_
      refine k_cSi (pc := 30) (av := [.long (Int32.toInt64 r101), .long 0, .long (Int32.toInt64 ((f101 57 1) - 1))]) dX7_readFront_30 lk_X7_51 rfl (by decide) (by decide) rfl h (fun r102 f102 h => ?_)
      refine z_if_eq (pc := 33) (t := 52) dX7_readFront_33 (by decide) (fun c_33 => ?_) (fun c_33 => ?_)
      · replace h := h.1 c_33
        refine z_aload_n (pc := 52) dX7_readFront_52 rfl ?_
        refine z_iconst (pc := 53) (v := 0) dX7_readFront_53 ic_0 ?_
        refine z_aload_n (pc := 54) dX7_readFront_54 rfl ?_
        refine k_getr (pc := 55) (j := 6) zc7 dX7_readFront_55 fl_X7_22 (by decide) rfl (by decide) rfl (k2 := 57) rfl ?_
        refine z_iconst (pc := 58) (v := 1) dX7_readFront_58 ic_1 ?_
        refine k_iald (pc := 59) (j := 1) (v := (f102 57 1)) dX7_readFront_59 (by decide) rfl (by unfold vp_in; decide) (by decide) rfl ?_
        refine z_iconst (pc := 60) (v := 1) dX7_readFront_60 ic_1 ?_
        refine z_isub (pc := 61) dX7_readFront_61 ?_
        refine k_cVi (pc := 62) (av := [.int 0, .int ((f102 57 1) - 1)]) zc7 rfl dX7_readFront_62 lk_X7_138 rfl (by decide) (by decide) (by decide) rfl rfl h (fun r103 f103 h => ?_)
        refine z_istore_n (pc := 65) (lv' := [(1, .int r103), (0, .ref 52)]) dX7_readFront_65 (Nat.le_of_ble_eq_true rfl) rfl ?_
        refine z_aload_n (pc := 66) dX7_readFront_66 rfl ?_
        refine k_geti (pc := 67) (j := 17) zc7 dX7_readFront_67 fl_X7_99 (by decide) rfl (by decide) rfl (v := (f103 52 17)) rfl ?_
        refine z_if_ne (pc := 70) (t := 98) dX7_readFront_70 (by decide) (fun c_70 => ?_) (fun c_70 => ?_)
        · replace h := h.1 c_70
          refine z_goto (pc := 98) (t := 0) dX7_readFront_98 (by decide) ?_
          exact z_sub [1] rfl h
        · replace h := h.2 c_70
          refine z_aload_n (pc := 73) dX7_readFront_73 rfl ?_
          refine k_getr (pc := 74) (j := 6) zc7 dX7_readFront_74 fl_X7_22 (by decide) rfl (by decide) rfl (k2 := 57) rfl ?_
          refine z_bipush (pc := 77) (v := 19) dX7_readFront_77 bi_19 ?_
          refine z_aload_n (pc := 79) dX7_readFront_79 rfl ?_
          refine k_getr (pc := 80) (j := 6) zc7 dX7_readFront_80 fl_X7_22 (by decide) rfl (by decide) rfl (k2 := 57) rfl ?_
          refine z_iconst (pc := 83) (v := 2) dX7_readFront_83 ic_2 ?_
          refine k_iald (pc := 84) (j := 2) (v := (f103 57 2)) dX7_readFront_84 (by decide) rfl (by unfold vp_in; decide) (by decide) rfl ?_
          refine z_iadd (pc := 85) dX7_readFront_85 ?_
          refine z_iload_n (pc := 86) dX7_readFront_86 rfl ?_
          refine k_iast (pc := 87) (j := (Int32.toNatClampNeg (19 + (f103 57 2)))) dX7_readFront_87 (by decide) rfl h.1 rfl ?_
          replace h := h.2
          refine z_aload_n (pc := 88) dX7_readFront_88 rfl ?_
          refine k_getr (pc := 89) (j := 6) zc7 dX7_readFront_89 fl_X7_22 (by decide) rfl (by decide) rfl (k2 := 57) rfl ?_
          refine z_iconst (pc := 92) (v := 2) dX7_readFront_92 ic_2 ?_
          refine z_dup2 (pc := 93) dX7_readFront_93 rfl rfl ?_
          refine k_iald (pc := 94) (j := 2) (v := ((zup f103 57 (Int32.toNatClampNeg (19 + (f103 57 2))) r103) 57 2)) dX7_readFront_94 (by decide) rfl (by unfold vp_in; decide) (by decide) rfl ?_
          refine z_iconst (pc := 95) (v := 1) dX7_readFront_95 ic_1 ?_
          refine z_iadd (pc := 96) dX7_readFront_96 ?_
          refine z_name (fun z104 e_z104 => ?_)
          replace h := h z104 e_z104
          refine k_iast (pc := 97) (j := 2) dX7_readFront_97 (by decide) rfl (by unfold vp_in; decide) (by decide) ?_
          refine z_goto (pc := 98) (t := 0) dX7_readFront_98 (by decide) ?_
          exact z_sub [1] rfl h
      · replace h := h.2 c_33
        refine z_aload_n (pc := 36) dX7_readFront_36 rfl ?_
        refine k_getr (pc := 37) (j := 6) zc7 dX7_readFront_37 fl_X7_22 (by decide) rfl (by decide) rfl (k2 := 57) rfl ?_
        refine z_iconst (pc := 40) (v := 2) dX7_readFront_40 ic_2 ?_
        refine k_iald (pc := 41) (j := 2) (v := (f102 57 2)) dX7_readFront_41 (by decide) rfl (by unfold vp_in; decide) (by decide) rfl ?_
        refine z_bipush (pc := 42) (v := 9) dX7_readFront_42 bi_9 ?_
        refine z_icmp_ne (pc := 44) (t := 52) dX7_readFront_44 (by decide) (fun c_44 => ?_) (fun c_44 => ?_)
        · replace h := h.1 c_44
          refine z_aload_n (pc := 52) dX7_readFront_52 rfl ?_
          refine z_iconst (pc := 53) (v := 0) dX7_readFront_53 ic_0 ?_
          refine z_aload_n (pc := 54) dX7_readFront_54 rfl ?_
          refine k_getr (pc := 55) (j := 6) zc7 dX7_readFront_55 fl_X7_22 (by decide) rfl (by decide) rfl (k2 := 57) rfl ?_
          refine z_iconst (pc := 58) (v := 1) dX7_readFront_58 ic_1 ?_
          refine k_iald (pc := 59) (j := 1) (v := (f102 57 1)) dX7_readFront_59 (by decide) rfl (by unfold vp_in; decide) (by decide) rfl ?_
          refine z_iconst (pc := 60) (v := 1) dX7_readFront_60 ic_1 ?_
          refine z_isub (pc := 61) dX7_readFront_61 ?_
          refine k_cVi (pc := 62) (av := [.int 0, .int ((f102 57 1) - 1)]) zc7 rfl dX7_readFront_62 lk_X7_138 rfl (by decide) (by decide) (by decide) rfl rfl h (fun r105 f105 h => ?_)
          refine z_istore_n (pc := 65) (lv' := [(1, .int r105), (0, .ref 52)]) dX7_readFront_65 (Nat.le_of_ble_eq_true rfl) rfl ?_
          refine z_aload_n (pc := 66) dX7_readFront_66 rfl ?_
          refine k_geti (pc := 67) (j := 17) zc7 dX7_readFront_67 fl_X7_99 (by decide) rfl (by decide) rfl (v := (f105 52 17)) rfl ?_
          refine z_if_ne (pc := 70) (t := 98) dX7_readFront_70 (by decide) (fun c_70 => ?_) (fun c_70 => ?_)
          · replace h := h.1 c_70
            refine z_goto (pc := 98) (t := 0) dX7_readFront_98 (by decide) ?_
            exact z_sub [1] rfl h
          · replace h := h.2 c_70
            refine z_aload_n (pc := 73) dX7_readFront_73 rfl ?_
            refine k_getr (pc := 74) (j := 6) zc7 dX7_readFront_74 fl_X7_22 (by decide) rfl (by decide) rfl (k2 := 57) rfl ?_
            refine z_bipush (pc := 77) (v := 19) dX7_readFront_77 bi_19 ?_
            refine z_aload_n (pc := 79) dX7_readFront_79 rfl ?_
            refine k_getr (pc := 80) (j := 6) zc7 dX7_readFront_80 fl_X7_22 (by decide) rfl (by decide) rfl (k2 := 57) rfl ?_
            refine z_iconst (pc := 83) (v := 2) dX7_readFront_83 ic_2 ?_
            refine k_iald (pc := 84) (j := 2) (v := (f105 57 2)) dX7_readFront_84 (by decide) rfl (by unfold vp_in; decide) (by decide) rfl ?_
            refine z_iadd (pc := 85) dX7_readFront_85 ?_
            refine z_iload_n (pc := 86) dX7_readFront_86 rfl ?_
            refine k_iast (pc := 87) (j := (Int32.toNatClampNeg (19 + (f105 57 2)))) dX7_readFront_87 (by decide) rfl h.1 rfl ?_
            replace h := h.2
            refine z_aload_n (pc := 88) dX7_readFront_88 rfl ?_
            refine k_getr (pc := 89) (j := 6) zc7 dX7_readFront_89 fl_X7_22 (by decide) rfl (by decide) rfl (k2 := 57) rfl ?_
            refine z_iconst (pc := 92) (v := 2) dX7_readFront_92 ic_2 ?_
            refine z_dup2 (pc := 93) dX7_readFront_93 rfl rfl ?_
            refine k_iald (pc := 94) (j := 2) (v := ((zup f105 57 (Int32.toNatClampNeg (19 + (f105 57 2))) r105) 57 2)) dX7_readFront_94 (by decide) rfl (by unfold vp_in; decide) (by decide) rfl ?_
            refine z_iconst (pc := 95) (v := 1) dX7_readFront_95 ic_1 ?_
            refine z_iadd (pc := 96) dX7_readFront_96 ?_
            refine z_name (fun z106 e_z106 => ?_)
            replace h := h z106 e_z106
            refine k_iast (pc := 97) (j := 2) dX7_readFront_97 (by decide) rfl (by unfold vp_in; decide) (by decide) ?_
            refine z_goto (pc := 98) (t := 0) dX7_readFront_98 (by decide) ?_
            exact z_sub [1] rfl h
        · replace h := h.2 c_44
          refine z_aload_n (pc := 47) dX7_readFront_47 rfl ?_
          refine z_iconst (pc := 48) (v := 3) dX7_readFront_48 ic_3 ?_
          refine k_cVv (pc := 49) (av := [.int 3]) zc7 rfl dX7_readFront_49 lk_X7_108 rfl (by decide) (by decide) (by decide) rfl rfl h (fun f107 h => ?_)
          refine z_aload_n (pc := 52) dX7_readFront_52 rfl ?_
          refine z_iconst (pc := 53) (v := 0) dX7_readFront_53 ic_0 ?_
          refine z_aload_n (pc := 54) dX7_readFront_54 rfl ?_
          refine k_getr (pc := 55) (j := 6) zc7 dX7_readFront_55 fl_X7_22 (by decide) rfl (by decide) rfl (k2 := 57) rfl ?_
          refine z_iconst (pc := 58) (v := 1) dX7_readFront_58 ic_1 ?_
          refine k_iald (pc := 59) (j := 1) (v := (f107 57 1)) dX7_readFront_59 (by decide) rfl (by unfold vp_in; decide) (by decide) rfl ?_
          refine z_iconst (pc := 60) (v := 1) dX7_readFront_60 ic_1 ?_
          refine z_isub (pc := 61) dX7_readFront_61 ?_
          refine k_cVi (pc := 62) (av := [.int 0, .int ((f107 57 1) - 1)]) zc7 rfl dX7_readFront_62 lk_X7_138 rfl (by decide) (by decide) (by decide) rfl rfl h (fun r108 f108 h => ?_)
          refine z_istore_n (pc := 65) (lv' := [(1, .int r108), (0, .ref 52)]) dX7_readFront_65 (Nat.le_of_ble_eq_true rfl) rfl ?_
          refine z_aload_n (pc := 66) dX7_readFront_66 rfl ?_
          refine k_geti (pc := 67) (j := 17) zc7 dX7_readFront_67 fl_X7_99 (by decide) rfl (by decide) rfl (v := (f108 52 17)) rfl ?_
          refine z_if_ne (pc := 70) (t := 98) dX7_readFront_70 (by decide) (fun c_70 => ?_) (fun c_70 => ?_)
          · replace h := h.1 c_70
            refine z_goto (pc := 98) (t := 0) dX7_readFront_98 (by decide) ?_
            exact z_sub [1] rfl h
          · replace h := h.2 c_70
            refine z_aload_n (pc := 73) dX7_readFront_73 rfl ?_
            refine k_getr (pc := 74) (j := 6) zc7 dX7_readFront_74 fl_X7_22 (by decide) rfl (by decide) rfl (k2 := 57) rfl ?_
            refine z_bipush (pc := 77) (v := 19) dX7_readFront_77 bi_19 ?_
            refine z_aload_n (pc := 79) dX7_readFront_79 rfl ?_
            refine k_getr (pc := 80) (j := 6) zc7 dX7_readFront_80 fl_X7_22 (by decide) rfl (by decide) rfl (k2 := 57) rfl ?_
            refine z_iconst (pc := 83) (v := 2) dX7_readFront_83 ic_2 ?_
            refine k_iald (pc := 84) (j := 2) (v := (f108 57 2)) dX7_readFront_84 (by decide) rfl (by unfold vp_in; decide) (by decide) rfl ?_
            refine z_iadd (pc := 85) dX7_readFront_85 ?_
            refine z_iload_n (pc := 86) dX7_readFront_86 rfl ?_
            refine k_iast (pc := 87) (j := (Int32.toNatClampNeg (19 + (f108 57 2)))) dX7_readFront_87 (by decide) rfl h.1 rfl ?_
            replace h := h.2
            refine z_aload_n (pc := 88) dX7_readFront_88 rfl ?_
            refine k_getr (pc := 89) (j := 6) zc7 dX7_readFront_89 fl_X7_22 (by decide) rfl (by decide) rfl (k2 := 57) rfl ?_
            refine z_iconst (pc := 92) (v := 2) dX7_readFront_92 ic_2 ?_
            refine z_dup2 (pc := 93) dX7_readFront_93 rfl rfl ?_
            refine k_iald (pc := 94) (j := 2) (v := ((zup f108 57 (Int32.toNatClampNeg (19 + (f108 57 2))) r108) 57 2)) dX7_readFront_94 (by decide) rfl (by unfold vp_in; decide) (by decide) rfl ?_
            refine z_iconst (pc := 95) (v := 1) dX7_readFront_95 ic_1 ?_
            refine z_iadd (pc := 96) dX7_readFront_96 ?_
            refine z_name (fun z109 e_z109 => ?_)
            replace h := h z109 e_z109
            refine k_iast (pc := 97) (j := 2) dX7_readFront_97 (by decide) rfl (by unfold vp_in; decide) (by decide) ?_
            refine z_goto (pc := 98) (t := 0) dX7_readFront_98 (by decide) ?_
            exact z_sub [1] rfl h
set_option maxRecDepth 20000 in
theorem w_X7_readLetter {f : zF} {K : zF → Prop}  (h : ((¬ (f 57 1) = 8 → cv mX7_must [.ref 52, .int 1] f (fun f1 => cl mX7_name [.ref 52] f1 (fun r2 f2 => ci mX7_kindBy [.long r2] f2 (fun r3 f3 => ((¬ (f3 52 17) = 0 → ci mX7_number [.ref 52, .int 0, .int 511] f3 (fun r4 f4 => cv mX7_mustEnd [.ref 52] f4 (fun f5 => ((¬ (f5 52 17) = 0 → K f5) ∧ ((f5 52 17) = 0 → (vp_in (3 + (2 * (f5 57 1))) 37 ∧ (∀ z6 : Int32, z6 = (2 * ((zup f5 57 (Int32.toNatClampNeg (3 + (2 * (f5 57 1)))) r3) 57 1)) → (vp_in ((3 + z6) + 1) 37 ∧ (∀ z7 : Int32, z7 = (((zup (zup f5 57 (Int32.toNatClampNeg (3 + (2 * (f5 57 1)))) r3) 57 (Int32.toNatClampNeg ((3 + z6) + 1)) r4) 57 1) + 1) → K (zup (zup (zup f5 57 (Int32.toNatClampNeg (3 + (2 * (f5 57 1)))) r3) 57 (Int32.toNatClampNeg ((3 + z6) + 1)) r4) 57 1 z7)))))))))) ∧ ((f3 52 17) = 0 → (∀ z8 : Int32, z8 = (if r3 = (-1000000) then 0 else 1) → cv mX7_must [.ref 52, .int z8] f3 (fun f9 => ci mX7_number [.ref 52, .int 0, .int 511] f9 (fun r10 f10 => cv mX7_mustEnd [.ref 52] f10 (fun f11 => ((¬ (f11 52 17) = 0 → K f11) ∧ ((f11 52 17) = 0 → (vp_in (3 + (2 * (f11 57 1))) 37 ∧ (∀ z12 : Int32, z12 = (2 * ((zup f11 57 (Int32.toNatClampNeg (3 + (2 * (f11 57 1)))) r3) 57 1)) → (vp_in ((3 + z12) + 1) 37 ∧ (∀ z13 : Int32, z13 = (((zup (zup f11 57 (Int32.toNatClampNeg (3 + (2 * (f11 57 1)))) r3) 57 (Int32.toNatClampNeg ((3 + z12) + 1)) r10) 57 1) + 1) → K (zup (zup (zup f11 57 (Int32.toNatClampNeg (3 + (2 * (f11 57 1)))) r3) 57 (Int32.toNatClampNeg ((3 + z12) + 1)) r10) 57 1 z13))))))))))))))))) ∧ ((f 57 1) = 8 → cv mX7_bad [.ref 52, .int 3] f (fun f15 => cv mX7_must [.ref 52, .int 1] f15 (fun f16 => cl mX7_name [.ref 52] f16 (fun r17 f17 => ci mX7_kindBy [.long r17] f17 (fun r18 f18 => ((¬ (f18 52 17) = 0 → ci mX7_number [.ref 52, .int 0, .int 511] f18 (fun r19 f19 => cv mX7_mustEnd [.ref 52] f19 (fun f20 => ((¬ (f20 52 17) = 0 → K f20) ∧ ((f20 52 17) = 0 → (vp_in (3 + (2 * (f20 57 1))) 37 ∧ (∀ z21 : Int32, z21 = (2 * ((zup f20 57 (Int32.toNatClampNeg (3 + (2 * (f20 57 1)))) r18) 57 1)) → (vp_in ((3 + z21) + 1) 37 ∧ (∀ z22 : Int32, z22 = (((zup (zup f20 57 (Int32.toNatClampNeg (3 + (2 * (f20 57 1)))) r18) 57 (Int32.toNatClampNeg ((3 + z21) + 1)) r19) 57 1) + 1) → K (zup (zup (zup f20 57 (Int32.toNatClampNeg (3 + (2 * (f20 57 1)))) r18) 57 (Int32.toNatClampNeg ((3 + z21) + 1)) r19) 57 1 z22)))))))))) ∧ ((f18 52 17) = 0 → (∀ z23 : Int32, z23 = (if r18 = (-1000000) then 0 else 1) → cv mX7_must [.ref 52, .int z23] f18 (fun f24 => ci mX7_number [.ref 52, .int 0, .int 511] f24 (fun r25 f25 => cv mX7_mustEnd [.ref 52] f25 (fun f26 => ((¬ (f26 52 17) = 0 → K f26) ∧ ((f26 52 17) = 0 → (vp_in (3 + (2 * (f26 57 1))) 37 ∧ (∀ z27 : Int32, z27 = (2 * ((zup f26 57 (Int32.toNatClampNeg (3 + (2 * (f26 57 1)))) r18) 57 1)) → (vp_in ((3 + z27) + 1) 37 ∧ (∀ z28 : Int32, z28 = (((zup (zup f26 57 (Int32.toNatClampNeg (3 + (2 * (f26 57 1)))) r18) 57 (Int32.toNatClampNeg ((3 + z27) + 1)) r25) 57 1) + 1) → K (zup (zup (zup f26 57 (Int32.toNatClampNeg (3 + (2 * (f26 57 1)))) r18) 57 (Int32.toNatClampNeg ((3 + z27) + 1)) r25) 57 1 z28)))))))))))))))))))) : cv mX7_readLetter [.ref 52] f K := by
  refine cv_of (by decide) (Nat.le_of_ble_eq_true rfl) (fun X hX => ?_)
  refine z_aload_n (pc := 0) dX7_readLetter_0 rfl ?_
  refine k_getr (pc := 1) (j := 6) zc7 dX7_readLetter_1 fl_X7_22 (by decide) rfl (by decide) rfl (k2 := 57) rfl ?_
  refine z_iconst (pc := 4) (v := 1) dX7_readLetter_4 ic_1 ?_
  refine k_iald (pc := 5) (j := 1) (v := (f 57 1)) dX7_readLetter_5 (by decide) rfl (by unfold vp_in; decide) (by decide) rfl ?_
  refine z_bipush (pc := 6) (v := 8) dX7_readLetter_6 bi_8 ?_
  refine z_icmp_ne (pc := 8) (t := 16) dX7_readLetter_8 (by decide) (fun c_8 => ?_) (fun c_8 => ?_)
  · replace h := h.1 c_8
    refine z_aload_n (pc := 16) dX7_readLetter_16 rfl ?_
    refine z_iconst (pc := 17) (v := 1) dX7_readLetter_17 ic_1 ?_
    refine k_cVv (pc := 18) (av := [.int 1]) zc7 rfl dX7_readLetter_18 lk_X7_116 rfl (by decide) (by decide) (by decide) rfl rfl h (fun f1 h => ?_)
    refine z_aload_n (pc := 21) dX7_readLetter_21 rfl ?_
    refine k_cVl (pc := 22) (av := []) zc7 rfl dX7_readLetter_22 lk_X7_130 rfl (by decide) (by decide) (by decide) rfl rfl h (fun r2 f2 h => ?_)
    refine k_cSi (pc := 25) (av := [.long r2]) dX7_readLetter_25 lk_X7_134 rfl (by decide) (by decide) rfl h (fun r3 f3 h => ?_)
    refine z_istore_n (pc := 28) (lv' := [(1, .int r3), (0, .ref 52)]) dX7_readLetter_28 (Nat.le_of_ble_eq_true rfl) rfl ?_
    refine z_aload_n (pc := 29) dX7_readLetter_29 rfl ?_
    refine k_geti (pc := 30) (j := 17) zc7 dX7_readLetter_30 fl_X7_99 (by decide) rfl (by decide) rfl (v := (f3 52 17)) rfl ?_
    refine z_if_ne (pc := 33) (t := 51) dX7_readLetter_33 (by decide) (fun c_33 => ?_) (fun c_33 => ?_)
    · replace h := h.1 c_33
      refine z_aload_n (pc := 51) dX7_readLetter_51 rfl ?_
      refine z_iconst (pc := 52) (v := 0) dX7_readLetter_52 ic_0 ?_
      refine z_sipush (pc := 53) (v := 511) dX7_readLetter_53 si_511 ?_
      refine k_cVi (pc := 56) (av := [.int 0, .int 511]) zc7 rfl dX7_readLetter_56 lk_X7_138 rfl (by decide) (by decide) (by decide) rfl rfl h (fun r4 f4 h => ?_)
      refine z_istore_n (pc := 59) (lv' := [(2, .int r4), (1, .int r3), (0, .ref 52)]) dX7_readLetter_59 (Nat.le_of_ble_eq_true rfl) rfl ?_
      refine z_aload_n (pc := 60) dX7_readLetter_60 rfl ?_
      refine k_cVv (pc := 61) (av := []) zc7 rfl dX7_readLetter_61 lk_X7_142 rfl (by decide) (by decide) (by decide) rfl rfl h (fun f5 h => ?_)
      refine z_aload_n (pc := 64) dX7_readLetter_64 rfl ?_
      refine k_geti (pc := 65) (j := 17) zc7 dX7_readLetter_65 fl_X7_99 (by decide) rfl (by decide) rfl (v := (f5 52 17)) rfl ?_
      refine z_if_ne (pc := 68) (t := 115) dX7_readLetter_68 (by decide) (fun c_68 => ?_) (fun c_68 => ?_)
      · replace h := h.1 c_68
        exact k_vret (pc := 115) hX dX7_readLetter_115 rfl h
      · replace h := h.2 c_68
        refine z_aload_n (pc := 71) dX7_readLetter_71 rfl ?_
        refine k_getr (pc := 72) (j := 6) zc7 dX7_readLetter_72 fl_X7_22 (by decide) rfl (by decide) rfl (k2 := 57) rfl ?_
        refine z_iconst (pc := 75) (v := 3) dX7_readLetter_75 ic_3 ?_
        refine z_iconst (pc := 76) (v := 2) dX7_readLetter_76 ic_2 ?_
        refine z_aload_n (pc := 77) dX7_readLetter_77 rfl ?_
        refine k_getr (pc := 78) (j := 6) zc7 dX7_readLetter_78 fl_X7_22 (by decide) rfl (by decide) rfl (k2 := 57) rfl ?_
        refine z_iconst (pc := 81) (v := 1) dX7_readLetter_81 ic_1 ?_
        refine k_iald (pc := 82) (j := 1) (v := (f5 57 1)) dX7_readLetter_82 (by decide) rfl (by unfold vp_in; decide) (by decide) rfl ?_
        refine z_imul (pc := 83) dX7_readLetter_83 ?_
        refine z_iadd (pc := 84) dX7_readLetter_84 ?_
        refine z_iload_n (pc := 85) dX7_readLetter_85 rfl ?_
        refine k_iast (pc := 86) (j := (Int32.toNatClampNeg (3 + (2 * (f5 57 1))))) dX7_readLetter_86 (by decide) rfl h.1 rfl ?_
        replace h := h.2
        refine z_aload_n (pc := 87) dX7_readLetter_87 rfl ?_
        refine k_getr (pc := 88) (j := 6) zc7 dX7_readLetter_88 fl_X7_22 (by decide) rfl (by decide) rfl (k2 := 57) rfl ?_
        refine z_iconst (pc := 91) (v := 3) dX7_readLetter_91 ic_3 ?_
        refine z_iconst (pc := 92) (v := 2) dX7_readLetter_92 ic_2 ?_
        refine z_aload_n (pc := 93) dX7_readLetter_93 rfl ?_
        refine k_getr (pc := 94) (j := 6) zc7 dX7_readLetter_94 fl_X7_22 (by decide) rfl (by decide) rfl (k2 := 57) rfl ?_
        refine z_iconst (pc := 97) (v := 1) dX7_readLetter_97 ic_1 ?_
        refine k_iald (pc := 98) (j := 1) (v := ((zup f5 57 (Int32.toNatClampNeg (3 + (2 * (f5 57 1)))) r3) 57 1)) dX7_readLetter_98 (by decide) rfl (by unfold vp_in; decide) (by decide) rfl ?_
        refine z_imul (pc := 99) dX7_readLetter_99 ?_
        refine z_name (fun z6 e_z6 => ?_)
        replace h := h z6 e_z6
        refine z_iadd (pc := 100) dX7_readLetter_100 ?_
        refine z_iconst (pc := 101) (v := 1) dX7_readLetter_101 ic_1 ?_
        refine z_iadd (pc := 102) dX7_readLetter_102 ?_
        refine z_iload_n (pc := 103) dX7_readLetter_103 rfl ?_
        refine k_iast (pc := 104) (j := (Int32.toNatClampNeg ((3 + z6) + 1))) dX7_readLetter_104 (by decide) rfl h.1 rfl ?_
        replace h := h.2
        refine z_aload_n (pc := 105) dX7_readLetter_105 rfl ?_
        refine k_getr (pc := 106) (j := 6) zc7 dX7_readLetter_106 fl_X7_22 (by decide) rfl (by decide) rfl (k2 := 57) rfl ?_
        refine z_iconst (pc := 109) (v := 1) dX7_readLetter_109 ic_1 ?_
        refine z_dup2 (pc := 110) dX7_readLetter_110 rfl rfl ?_
        refine k_iald (pc := 111) (j := 1) (v := ((zup (zup f5 57 (Int32.toNatClampNeg (3 + (2 * (f5 57 1)))) r3) 57 (Int32.toNatClampNeg ((3 + z6) + 1)) r4) 57 1)) dX7_readLetter_111 (by decide) rfl (by unfold vp_in; decide) (by decide) rfl ?_
        refine z_iconst (pc := 112) (v := 1) dX7_readLetter_112 ic_1 ?_
        refine z_iadd (pc := 113) dX7_readLetter_113 ?_
        refine z_name (fun z7 e_z7 => ?_)
        replace h := h z7 e_z7
        refine k_iast (pc := 114) (j := 1) dX7_readLetter_114 (by decide) rfl (by unfold vp_in; decide) (by decide) ?_
        exact k_vret (pc := 115) hX dX7_readLetter_115 rfl h
    · replace h := h.2 c_33
      refine z_aload_n (pc := 36) dX7_readLetter_36 rfl ?_
      refine z_iload_n (pc := 37) dX7_readLetter_37 rfl ?_
      refine z_ldc (pc := 38) (v := -1000000) dX7_readLetter_38 co_X7_77 ?_
      suffices hm14 : Z X mX7_readLetter 48 [(1, .int r3), (0, .ref 52)] [.int (if r3 = (-1000000) then 0 else 1), .ref 52] (zC f3) by
        refine z_icmp_eq (pc := 40) (t := 47) dX7_readLetter_40 (by decide) (fun c_40 => ?_) (fun c_40 => ?_)
        · rw [if_pos c_40] at hm14
          refine z_iconst (pc := 47) (v := 0) dX7_readLetter_47 ic_0 ?_
          exact hm14
        · rw [if_neg c_40] at hm14
          refine z_iconst (pc := 43) (v := 1) dX7_readLetter_43 ic_1 ?_
          refine z_goto (pc := 44) (t := 48) dX7_readLetter_44 (by decide) ?_
          exact hm14
      refine z_name (fun z8 e_z8 => ?_)
      replace h := h z8 e_z8
      refine k_cVv (pc := 48) (av := [.int z8]) zc7 rfl dX7_readLetter_48 lk_X7_116 rfl (by decide) (by decide) (by decide) rfl rfl h (fun f9 h => ?_)
      refine z_aload_n (pc := 51) dX7_readLetter_51 rfl ?_
      refine z_iconst (pc := 52) (v := 0) dX7_readLetter_52 ic_0 ?_
      refine z_sipush (pc := 53) (v := 511) dX7_readLetter_53 si_511 ?_
      refine k_cVi (pc := 56) (av := [.int 0, .int 511]) zc7 rfl dX7_readLetter_56 lk_X7_138 rfl (by decide) (by decide) (by decide) rfl rfl h (fun r10 f10 h => ?_)
      refine z_istore_n (pc := 59) (lv' := [(2, .int r10), (1, .int r3), (0, .ref 52)]) dX7_readLetter_59 (Nat.le_of_ble_eq_true rfl) rfl ?_
      refine z_aload_n (pc := 60) dX7_readLetter_60 rfl ?_
      refine k_cVv (pc := 61) (av := []) zc7 rfl dX7_readLetter_61 lk_X7_142 rfl (by decide) (by decide) (by decide) rfl rfl h (fun f11 h => ?_)
      refine z_aload_n (pc := 64) dX7_readLetter_64 rfl ?_
      refine k_geti (pc := 65) (j := 17) zc7 dX7_readLetter_65 fl_X7_99 (by decide) rfl (by decide) rfl (v := (f11 52 17)) rfl ?_
      refine z_if_ne (pc := 68) (t := 115) dX7_readLetter_68 (by decide) (fun c_68 => ?_) (fun c_68 => ?_)
      · replace h := h.1 c_68
        exact k_vret (pc := 115) hX dX7_readLetter_115 rfl h
      · replace h := h.2 c_68
        refine z_aload_n (pc := 71) dX7_readLetter_71 rfl ?_
        refine k_getr (pc := 72) (j := 6) zc7 dX7_readLetter_72 fl_X7_22 (by decide) rfl (by decide) rfl (k2 := 57) rfl ?_
        refine z_iconst (pc := 75) (v := 3) dX7_readLetter_75 ic_3 ?_
        refine z_iconst (pc := 76) (v := 2) dX7_readLetter_76 ic_2 ?_
        refine z_aload_n (pc := 77) dX7_readLetter_77 rfl ?_
        refine k_getr (pc := 78) (j := 6) zc7 dX7_readLetter_78 fl_X7_22 (by decide) rfl (by decide) rfl (k2 := 57) rfl ?_
        refine z_iconst (pc := 81) (v := 1) dX7_readLetter_81 ic_1 ?_
        refine k_iald (pc := 82) (j := 1) (v := (f11 57 1)) dX7_readLetter_82 (by decide) rfl (by unfold vp_in; decide) (by decide) rfl ?_
        refine z_imul (pc := 83) dX7_readLetter_83 ?_
        refine z_iadd (pc := 84) dX7_readLetter_84 ?_
        refine z_iload_n (pc := 85) dX7_readLetter_85 rfl ?_
        refine k_iast (pc := 86) (j := (Int32.toNatClampNeg (3 + (2 * (f11 57 1))))) dX7_readLetter_86 (by decide) rfl h.1 rfl ?_
        replace h := h.2
        refine z_aload_n (pc := 87) dX7_readLetter_87 rfl ?_
        refine k_getr (pc := 88) (j := 6) zc7 dX7_readLetter_88 fl_X7_22 (by decide) rfl (by decide) rfl (k2 := 57) rfl ?_
        refine z_iconst (pc := 91) (v := 3) dX7_readLetter_91 ic_3 ?_
        refine z_iconst (pc := 92) (v := 2) dX7_readLetter_92 ic_2 ?_
        refine z_aload_n (pc := 93) dX7_readLetter_93 rfl ?_
        refine k_getr (pc := 94) (j := 6) zc7 dX7_readLetter_94 fl_X7_22 (by decide) rfl (by decide) rfl (k2 := 57) rfl ?_
        refine z_iconst (pc := 97) (v := 1) dX7_readLetter_97 ic_1 ?_
        refine k_iald (pc := 98) (j := 1) (v := ((zup f11 57 (Int32.toNatClampNeg (3 + (2 * (f11 57 1)))) r3) 57 1)) dX7_readLetter_98 (by decide) rfl (by unfold vp_in; decide) (by decide) rfl ?_
        refine z_imul (pc := 99) dX7_readLetter_99 ?_
        refine z_name (fun z12 e_z12 => ?_)
        replace h := h z12 e_z12
        refine z_iadd (pc := 100) dX7_readLetter_100 ?_
        refine z_iconst (pc := 101) (v := 1) dX7_readLetter_101 ic_1 ?_
        refine z_iadd (pc := 102) dX7_readLetter_102 ?_
        refine z_iload_n (pc := 103) dX7_readLetter_103 rfl ?_
        refine k_iast (pc := 104) (j := (Int32.toNatClampNeg ((3 + z12) + 1))) dX7_readLetter_104 (by decide) rfl h.1 rfl ?_
        replace h := h.2
        refine z_aload_n (pc := 105) dX7_readLetter_105 rfl ?_
        refine k_getr (pc := 106) (j := 6) zc7 dX7_readLetter_106 fl_X7_22 (by decide) rfl (by decide) rfl (k2 := 57) rfl ?_
        refine z_iconst (pc := 109) (v := 1) dX7_readLetter_109 ic_1 ?_
        refine z_dup2 (pc := 110) dX7_readLetter_110 rfl rfl ?_
        refine k_iald (pc := 111) (j := 1) (v := ((zup (zup f11 57 (Int32.toNatClampNeg (3 + (2 * (f11 57 1)))) r3) 57 (Int32.toNatClampNeg ((3 + z12) + 1)) r10) 57 1)) dX7_readLetter_111 (by decide) rfl (by unfold vp_in; decide) (by decide) rfl ?_
        refine z_iconst (pc := 112) (v := 1) dX7_readLetter_112 ic_1 ?_
        refine z_iadd (pc := 113) dX7_readLetter_113 ?_
        refine z_name (fun z13 e_z13 => ?_)
        replace h := h z13 e_z13
        refine k_iast (pc := 114) (j := 1) dX7_readLetter_114 (by decide) rfl (by unfold vp_in; decide) (by decide) ?_
        exact k_vret (pc := 115) hX dX7_readLetter_115 rfl h
  · replace h := h.2 c_8
    refine z_aload_n (pc := 11) dX7_readLetter_11 rfl ?_
    refine z_iconst (pc := 12) (v := 3) dX7_readLetter_12 ic_3 ?_
    refine k_cVv (pc := 13) (av := [.int 3]) zc7 rfl dX7_readLetter_13 lk_X7_108 rfl (by decide) (by decide) (by decide) rfl rfl h (fun f15 h => ?_)
    refine z_aload_n (pc := 16) dX7_readLetter_16 rfl ?_
    refine z_iconst (pc := 17) (v := 1) dX7_readLetter_17 ic_1 ?_
    refine k_cVv (pc := 18) (av := [.int 1]) zc7 rfl dX7_readLetter_18 lk_X7_116 rfl (by decide) (by decide) (by decide) rfl rfl h (fun f16 h => ?_)
    refine z_aload_n (pc := 21) dX7_readLetter_21 rfl ?_
    refine k_cVl (pc := 22) (av := []) zc7 rfl dX7_readLetter_22 lk_X7_130 rfl (by decide) (by decide) (by decide) rfl rfl h (fun r17 f17 h => ?_)
    refine k_cSi (pc := 25) (av := [.long r17]) dX7_readLetter_25 lk_X7_134 rfl (by decide) (by decide) rfl h (fun r18 f18 h => ?_)
    refine z_istore_n (pc := 28) (lv' := [(1, .int r18), (0, .ref 52)]) dX7_readLetter_28 (Nat.le_of_ble_eq_true rfl) rfl ?_
    refine z_aload_n (pc := 29) dX7_readLetter_29 rfl ?_
    refine k_geti (pc := 30) (j := 17) zc7 dX7_readLetter_30 fl_X7_99 (by decide) rfl (by decide) rfl (v := (f18 52 17)) rfl ?_
    refine z_if_ne (pc := 33) (t := 51) dX7_readLetter_33 (by decide) (fun c_33 => ?_) (fun c_33 => ?_)
    · replace h := h.1 c_33
      refine z_aload_n (pc := 51) dX7_readLetter_51 rfl ?_
      refine z_iconst (pc := 52) (v := 0) dX7_readLetter_52 ic_0 ?_
      refine z_sipush (pc := 53) (v := 511) dX7_readLetter_53 si_511 ?_
      refine k_cVi (pc := 56) (av := [.int 0, .int 511]) zc7 rfl dX7_readLetter_56 lk_X7_138 rfl (by decide) (by decide) (by decide) rfl rfl h (fun r19 f19 h => ?_)
      refine z_istore_n (pc := 59) (lv' := [(2, .int r19), (1, .int r18), (0, .ref 52)]) dX7_readLetter_59 (Nat.le_of_ble_eq_true rfl) rfl ?_
      refine z_aload_n (pc := 60) dX7_readLetter_60 rfl ?_
      refine k_cVv (pc := 61) (av := []) zc7 rfl dX7_readLetter_61 lk_X7_142 rfl (by decide) (by decide) (by decide) rfl rfl h (fun f20 h => ?_)
      refine z_aload_n (pc := 64) dX7_readLetter_64 rfl ?_
      refine k_geti (pc := 65) (j := 17) zc7 dX7_readLetter_65 fl_X7_99 (by decide) rfl (by decide) rfl (v := (f20 52 17)) rfl ?_
      refine z_if_ne (pc := 68) (t := 115) dX7_readLetter_68 (by decide) (fun c_68 => ?_) (fun c_68 => ?_)
      · replace h := h.1 c_68
        exact k_vret (pc := 115) hX dX7_readLetter_115 rfl h
      · replace h := h.2 c_68
        refine z_aload_n (pc := 71) dX7_readLetter_71 rfl ?_
        refine k_getr (pc := 72) (j := 6) zc7 dX7_readLetter_72 fl_X7_22 (by decide) rfl (by decide) rfl (k2 := 57) rfl ?_
        refine z_iconst (pc := 75) (v := 3) dX7_readLetter_75 ic_3 ?_
        refine z_iconst (pc := 76) (v := 2) dX7_readLetter_76 ic_2 ?_
        refine z_aload_n (pc := 77) dX7_readLetter_77 rfl ?_
        refine k_getr (pc := 78) (j := 6) zc7 dX7_readLetter_78 fl_X7_22 (by decide) rfl (by decide) rfl (k2 := 57) rfl ?_
        refine z_iconst (pc := 81) (v := 1) dX7_readLetter_81 ic_1 ?_
        refine k_iald (pc := 82) (j := 1) (v := (f20 57 1)) dX7_readLetter_82 (by decide) rfl (by unfold vp_in; decide) (by decide) rfl ?_
        refine z_imul (pc := 83) dX7_readLetter_83 ?_
        refine z_iadd (pc := 84) dX7_readLetter_84 ?_
        refine z_iload_n (pc := 85) dX7_readLetter_85 rfl ?_
        refine k_iast (pc := 86) (j := (Int32.toNatClampNeg (3 + (2 * (f20 57 1))))) dX7_readLetter_86 (by decide) rfl h.1 rfl ?_
        replace h := h.2
        refine z_aload_n (pc := 87) dX7_readLetter_87 rfl ?_
        refine k_getr (pc := 88) (j := 6) zc7 dX7_readLetter_88 fl_X7_22 (by decide) rfl (by decide) rfl (k2 := 57) rfl ?_
        refine z_iconst (pc := 91) (v := 3) dX7_readLetter_91 ic_3 ?_
        refine z_iconst (pc := 92) (v := 2) dX7_readLetter_92 ic_2 ?_
        refine z_aload_n (pc := 93) dX7_readLetter_93 rfl ?_
        refine k_getr (pc := 94) (j := 6) zc7 dX7_readLetter_94 fl_X7_22 (by decide) rfl (by decide) rfl (k2 := 57) rfl ?_
        refine z_iconst (pc := 97) (v := 1) dX7_readLetter_97 ic_1 ?_
        refine k_iald (pc := 98) (j := 1) (v := ((zup f20 57 (Int32.toNatClampNeg (3 + (2 * (f20 57 1)))) r18) 57 1)) dX7_readLetter_98 (by decide) rfl (by unfold vp_in; decide) (by decide) rfl ?_
        refine z_imul (pc := 99) dX7_readLetter_99 ?_
        refine z_name (fun z21 e_z21 => ?_)
        replace h := h z21 e_z21
        refine z_iadd (pc := 100) dX7_readLetter_100 ?_
        refine z_iconst (pc := 101) (v := 1) dX7_readLetter_101 ic_1 ?_
        refine z_iadd (pc := 102) dX7_readLetter_102 ?_
        refine z_iload_n (pc := 103) dX7_readLetter_103 rfl ?_
        refine k_iast (pc := 104) (j := (Int32.toNatClampNeg ((3 + z21) + 1))) dX7_readLetter_104 (by decide) rfl h.1 rfl ?_
        replace h := h.2
        refine z_aload_n (pc := 105) dX7_readLetter_105 rfl ?_
        refine k_getr (pc := 106) (j := 6) zc7 dX7_readLetter_106 fl_X7_22 (by decide) rfl (by decide) rfl (k2 := 57) rfl ?_
        refine z_iconst (pc := 109) (v := 1) dX7_readLetter_109 ic_1 ?_
        refine z_dup2 (pc := 110) dX7_readLetter_110 rfl rfl ?_
        refine k_iald (pc := 111) (j := 1) (v := ((zup (zup f20 57 (Int32.toNatClampNeg (3 + (2 * (f20 57 1)))) r18) 57 (Int32.toNatClampNeg ((3 + z21) + 1)) r19) 57 1)) dX7_readLetter_111 (by decide) rfl (by unfold vp_in; decide) (by decide) rfl ?_
        refine z_iconst (pc := 112) (v := 1) dX7_readLetter_112 ic_1 ?_
        refine z_iadd (pc := 113) dX7_readLetter_113 ?_
        refine z_name (fun z22 e_z22 => ?_)
        replace h := h z22 e_z22
        refine k_iast (pc := 114) (j := 1) dX7_readLetter_114 (by decide) rfl (by unfold vp_in; decide) (by decide) ?_
        exact k_vret (pc := 115) hX dX7_readLetter_115 rfl h
    · replace h := h.2 c_33
      refine z_aload_n (pc := 36) dX7_readLetter_36 rfl ?_
      refine z_iload_n (pc := 37) dX7_readLetter_37 rfl ?_
      refine z_ldc (pc := 38) (v := -1000000) dX7_readLetter_38 co_X7_77 ?_
      suffices hm29 : Z X mX7_readLetter 48 [(1, .int r18), (0, .ref 52)] [.int (if r18 = (-1000000) then 0 else 1), .ref 52] (zC f18) by
        refine z_icmp_eq (pc := 40) (t := 47) dX7_readLetter_40 (by decide) (fun c_40 => ?_) (fun c_40 => ?_)
        · rw [if_pos c_40] at hm29
          refine z_iconst (pc := 47) (v := 0) dX7_readLetter_47 ic_0 ?_
          exact hm29
        · rw [if_neg c_40] at hm29
          refine z_iconst (pc := 43) (v := 1) dX7_readLetter_43 ic_1 ?_
          refine z_goto (pc := 44) (t := 48) dX7_readLetter_44 (by decide) ?_
          exact hm29
      refine z_name (fun z23 e_z23 => ?_)
      replace h := h z23 e_z23
      refine k_cVv (pc := 48) (av := [.int z23]) zc7 rfl dX7_readLetter_48 lk_X7_116 rfl (by decide) (by decide) (by decide) rfl rfl h (fun f24 h => ?_)
      refine z_aload_n (pc := 51) dX7_readLetter_51 rfl ?_
      refine z_iconst (pc := 52) (v := 0) dX7_readLetter_52 ic_0 ?_
      refine z_sipush (pc := 53) (v := 511) dX7_readLetter_53 si_511 ?_
      refine k_cVi (pc := 56) (av := [.int 0, .int 511]) zc7 rfl dX7_readLetter_56 lk_X7_138 rfl (by decide) (by decide) (by decide) rfl rfl h (fun r25 f25 h => ?_)
      refine z_istore_n (pc := 59) (lv' := [(2, .int r25), (1, .int r18), (0, .ref 52)]) dX7_readLetter_59 (Nat.le_of_ble_eq_true rfl) rfl ?_
      refine z_aload_n (pc := 60) dX7_readLetter_60 rfl ?_
      refine k_cVv (pc := 61) (av := []) zc7 rfl dX7_readLetter_61 lk_X7_142 rfl (by decide) (by decide) (by decide) rfl rfl h (fun f26 h => ?_)
      refine z_aload_n (pc := 64) dX7_readLetter_64 rfl ?_
      refine k_geti (pc := 65) (j := 17) zc7 dX7_readLetter_65 fl_X7_99 (by decide) rfl (by decide) rfl (v := (f26 52 17)) rfl ?_
      refine z_if_ne (pc := 68) (t := 115) dX7_readLetter_68 (by decide) (fun c_68 => ?_) (fun c_68 => ?_)
      · replace h := h.1 c_68
        exact k_vret (pc := 115) hX dX7_readLetter_115 rfl h
      · replace h := h.2 c_68
        refine z_aload_n (pc := 71) dX7_readLetter_71 rfl ?_
        refine k_getr (pc := 72) (j := 6) zc7 dX7_readLetter_72 fl_X7_22 (by decide) rfl (by decide) rfl (k2 := 57) rfl ?_
        refine z_iconst (pc := 75) (v := 3) dX7_readLetter_75 ic_3 ?_
        refine z_iconst (pc := 76) (v := 2) dX7_readLetter_76 ic_2 ?_
        refine z_aload_n (pc := 77) dX7_readLetter_77 rfl ?_
        refine k_getr (pc := 78) (j := 6) zc7 dX7_readLetter_78 fl_X7_22 (by decide) rfl (by decide) rfl (k2 := 57) rfl ?_
        refine z_iconst (pc := 81) (v := 1) dX7_readLetter_81 ic_1 ?_
        refine k_iald (pc := 82) (j := 1) (v := (f26 57 1)) dX7_readLetter_82 (by decide) rfl (by unfold vp_in; decide) (by decide) rfl ?_
        refine z_imul (pc := 83) dX7_readLetter_83 ?_
        refine z_iadd (pc := 84) dX7_readLetter_84 ?_
        refine z_iload_n (pc := 85) dX7_readLetter_85 rfl ?_
        refine k_iast (pc := 86) (j := (Int32.toNatClampNeg (3 + (2 * (f26 57 1))))) dX7_readLetter_86 (by decide) rfl h.1 rfl ?_
        replace h := h.2
        refine z_aload_n (pc := 87) dX7_readLetter_87 rfl ?_
        refine k_getr (pc := 88) (j := 6) zc7 dX7_readLetter_88 fl_X7_22 (by decide) rfl (by decide) rfl (k2 := 57) rfl ?_
        refine z_iconst (pc := 91) (v := 3) dX7_readLetter_91 ic_3 ?_
        refine z_iconst (pc := 92) (v := 2) dX7_readLetter_92 ic_2 ?_
        refine z_aload_n (pc := 93) dX7_readLetter_93 rfl ?_
        refine k_getr (pc := 94) (j := 6) zc7 dX7_readLetter_94 fl_X7_22 (by decide) rfl (by decide) rfl (k2 := 57) rfl ?_
        refine z_iconst (pc := 97) (v := 1) dX7_readLetter_97 ic_1 ?_
        refine k_iald (pc := 98) (j := 1) (v := ((zup f26 57 (Int32.toNatClampNeg (3 + (2 * (f26 57 1)))) r18) 57 1)) dX7_readLetter_98 (by decide) rfl (by unfold vp_in; decide) (by decide) rfl ?_
        refine z_imul (pc := 99) dX7_readLetter_99 ?_
        refine z_name (fun z27 e_z27 => ?_)
        replace h := h z27 e_z27
        refine z_iadd (pc := 100) dX7_readLetter_100 ?_
        refine z_iconst (pc := 101) (v := 1) dX7_readLetter_101 ic_1 ?_
        refine z_iadd (pc := 102) dX7_readLetter_102 ?_
        refine z_iload_n (pc := 103) dX7_readLetter_103 rfl ?_
        refine k_iast (pc := 104) (j := (Int32.toNatClampNeg ((3 + z27) + 1))) dX7_readLetter_104 (by decide) rfl h.1 rfl ?_
        replace h := h.2
        refine z_aload_n (pc := 105) dX7_readLetter_105 rfl ?_
        refine k_getr (pc := 106) (j := 6) zc7 dX7_readLetter_106 fl_X7_22 (by decide) rfl (by decide) rfl (k2 := 57) rfl ?_
        refine z_iconst (pc := 109) (v := 1) dX7_readLetter_109 ic_1 ?_
        refine z_dup2 (pc := 110) dX7_readLetter_110 rfl rfl ?_
        refine k_iald (pc := 111) (j := 1) (v := ((zup (zup f26 57 (Int32.toNatClampNeg (3 + (2 * (f26 57 1)))) r18) 57 (Int32.toNatClampNeg ((3 + z27) + 1)) r25) 57 1)) dX7_readLetter_111 (by decide) rfl (by unfold vp_in; decide) (by decide) rfl ?_
        refine z_iconst (pc := 112) (v := 1) dX7_readLetter_112 ic_1 ?_
        refine z_iadd (pc := 113) dX7_readLetter_113 ?_
        refine z_name (fun z28 e_z28 => ?_)
        replace h := h z28 e_z28
        refine k_iast (pc := 114) (j := 1) dX7_readLetter_114 (by decide) rfl (by unfold vp_in; decide) (by decide) ?_
        exact k_vret (pc := 115) hX dX7_readLetter_115 rfl h
set_option maxRecDepth 20000 in
theorem w_X7_safe {f : zF} {K : Int32 → zF → Prop} {p1 : Int32} (h : ci mX7_isOne [.ref 52, .int p1] (zup f 52 0 0) (fun r1 f1 => ((r1 = 0 → K (-1000001) f1) ∧ (¬ r1 = 0 → ci mX7_behindBy [.ref 52, .int p1, .int p1] f1 (fun r2 f2 => K r2 f2))))) : ci mX7_safe [.ref 52, .int p1] f K := by
  refine ci_of (by decide) (Nat.le_of_ble_eq_true rfl) (fun X hX => ?_)
  refine z_aload_n (pc := 0) dX7_safe_0 rfl ?_
  refine z_iconst (pc := 1) (v := 0) dX7_safe_1 ic_0 ?_
  refine k_puti (pc := 2) (j := 0) zc7 dX7_safe_2 fl_X7_41 (by decide) rfl rfl rfl (by decide) rfl ?_
  refine z_aload_n (pc := 5) dX7_safe_5 rfl ?_
  refine z_iload_n (pc := 6) dX7_safe_6 rfl ?_
  refine k_cVi (pc := 7) (av := [.int p1]) zc7 rfl dX7_safe_7 lk_X7_203 rfl (by decide) (by decide) (by decide) rfl rfl h (fun r1 f1 h => ?_)
  refine z_if_eq (pc := 10) (t := 22) dX7_safe_10 (by decide) (fun c_10 => ?_) (fun c_10 => ?_)
  · replace h := h.1 c_10
    refine z_ldc (pc := 22) (v := -1000001) dX7_safe_22 co_X7_61 ?_
    exact k_iret (pc := 24) hX dX7_safe_24 rfl rfl h
  · replace h := h.2 c_10
    refine z_aload_n (pc := 13) dX7_safe_13 rfl ?_
    refine z_iload_n (pc := 14) dX7_safe_14 rfl ?_
    refine z_iload_n (pc := 15) dX7_safe_15 rfl ?_
    refine k_cVi (pc := 16) (av := [.int p1, .int p1]) zc7 rfl dX7_safe_16 lk_X7_233 rfl (by decide) (by decide) (by decide) rfl rfl h (fun r2 f2 h => ?_)
    refine z_goto (pc := 19) (t := 24) dX7_safe_19 (by decide) ?_
    exact k_iret (pc := 24) hX dX7_safe_24 rfl rfl h
set_option maxRecDepth 20000 in
theorem w_X7_sizeOf {f : zF} {K : Int32 → zF → Prop} {p1 : Int32} (h : ci mX7_kindOf [.ref 52, .int p1] f (fun r1 f1 => ((r1 < 4 → ((¬ r1 = 2 → cv mX7_began [.ref 52, .int 11] f1 (fun f2 => ci mX7_plainSize [.ref 52, .int p1] f2 (fun r3 f3 => ci mX7_markOf [.ref 52, .int p1] f3 (fun r4 f4 => ((¬ r1 = 2 → K (r3 + r4) f4) ∧ (r1 = 2 → K (-(r3 + r4)) f4)))))) ∧ (r1 = 2 → cv mX7_began [.ref 52, .int 12] f1 (fun f5 => cv mX7_began [.ref 52, .int 11] f5 (fun f6 => ci mX7_plainSize [.ref 52, .int p1] f6 (fun r7 f7 => ci mX7_markOf [.ref 52, .int p1] f7 (fun r8 f8 => ((¬ r1 = 2 → K (r7 + r8) f8) ∧ (r1 = 2 → K (-(r7 + r8)) f8))))))))) ∧ (¬ r1 < 4 → ci mX7_markSize [.ref 52, .int p1] f1 (fun r9 f9 => K r9 f9))))) : ci mX7_sizeOf [.ref 52, .int p1] f K := by
  refine ci_of (by decide) (Nat.le_of_ble_eq_true rfl) (fun X hX => ?_)
  refine z_aload_n (pc := 0) dX7_sizeOf_0 rfl ?_
  refine z_iload_n (pc := 1) dX7_sizeOf_1 rfl ?_
  refine k_cVi (pc := 2) (av := [.int p1]) zc7 rfl dX7_sizeOf_2 lk_X7_173 rfl (by decide) (by decide) (by decide) rfl rfl h (fun r1 f1 h => ?_)
  refine z_istore_n (pc := 5) (lv' := [(2, .int r1), (0, .ref 52), (1, .int p1)]) dX7_sizeOf_5 (Nat.le_of_ble_eq_true rfl) rfl ?_
  refine z_iload_n (pc := 6) dX7_sizeOf_6 rfl ?_
  refine z_iconst (pc := 7) (v := 4) dX7_sizeOf_7 ic_4 ?_
  refine z_icmp_lt (pc := 8) (t := 17) dX7_sizeOf_8 (by decide) (fun c_8 => ?_) (fun c_8 => ?_)
  · replace h := h.1 c_8
    refine z_iload_n (pc := 17) dX7_sizeOf_17 rfl ?_
    refine z_iconst (pc := 18) (v := 2) dX7_sizeOf_18 ic_2 ?_
    refine z_icmp_ne (pc := 19) (t := 28) dX7_sizeOf_19 (by decide) (fun c_19 => ?_) (fun c_19 => ?_)
    · replace h := h.1 c_19
      refine z_aload_n (pc := 28) dX7_sizeOf_28 rfl ?_
      refine z_bipush (pc := 29) (v := 11) dX7_sizeOf_29 bi_11 ?_
      refine k_cVv (pc := 31) (av := [.int 11]) zc7 rfl dX7_sizeOf_31 lk_X7_251 rfl (by decide) (by decide) (by decide) rfl rfl h (fun f2 h => ?_)
      refine z_aload_n (pc := 34) dX7_sizeOf_34 rfl ?_
      refine z_iload_n (pc := 35) dX7_sizeOf_35 rfl ?_
      refine k_cVi (pc := 36) (av := [.int p1]) zc7 rfl dX7_sizeOf_36 lk_X7_254 rfl (by decide) (by decide) (by decide) rfl rfl h (fun r3 f3 h => ?_)
      refine z_istore_n (pc := 39) (lv' := [(3, .int r3), (2, .int r1), (0, .ref 52), (1, .int p1)]) dX7_sizeOf_39 (Nat.le_of_ble_eq_true rfl) rfl ?_
      refine z_iload_n (pc := 40) dX7_sizeOf_40 rfl ?_
      refine z_aload_n (pc := 41) dX7_sizeOf_41 rfl ?_
      refine z_iload_n (pc := 42) dX7_sizeOf_42 rfl ?_
      refine k_cVi (pc := 43) (av := [.int p1]) zc7 rfl dX7_sizeOf_43 lk_X7_260 rfl (by decide) (by decide) (by decide) rfl rfl h (fun r4 f4 h => ?_)
      refine z_iadd (pc := 46) dX7_sizeOf_46 ?_
      refine z_istore_n (pc := 47) (lv' := [(3, .int (r3 + r4)), (2, .int r1), (0, .ref 52), (1, .int p1)]) dX7_sizeOf_47 (Nat.le_of_ble_eq_true rfl) rfl ?_
      refine z_iload_n (pc := 48) dX7_sizeOf_48 rfl ?_
      refine z_iconst (pc := 49) (v := 2) dX7_sizeOf_49 ic_2 ?_
      refine z_icmp_ne (pc := 50) (t := 58) dX7_sizeOf_50 (by decide) (fun c_50 => ?_) (fun c_50 => ?_)
      · replace h := h.1 c_50
        refine z_iload_n (pc := 58) dX7_sizeOf_58 rfl ?_
        exact k_iret (pc := 59) hX dX7_sizeOf_59 rfl rfl h
      · replace h := h.2 c_50
        refine z_iload_n (pc := 53) dX7_sizeOf_53 rfl ?_
        refine z_ineg (pc := 54) dX7_sizeOf_54 ?_
        refine z_goto (pc := 55) (t := 59) dX7_sizeOf_55 (by decide) ?_
        exact k_iret (pc := 59) hX dX7_sizeOf_59 rfl rfl h
    · replace h := h.2 c_19
      refine z_aload_n (pc := 22) dX7_sizeOf_22 rfl ?_
      refine z_bipush (pc := 23) (v := 12) dX7_sizeOf_23 bi_12 ?_
      refine k_cVv (pc := 25) (av := [.int 12]) zc7 rfl dX7_sizeOf_25 lk_X7_251 rfl (by decide) (by decide) (by decide) rfl rfl h (fun f5 h => ?_)
      refine z_aload_n (pc := 28) dX7_sizeOf_28 rfl ?_
      refine z_bipush (pc := 29) (v := 11) dX7_sizeOf_29 bi_11 ?_
      refine k_cVv (pc := 31) (av := [.int 11]) zc7 rfl dX7_sizeOf_31 lk_X7_251 rfl (by decide) (by decide) (by decide) rfl rfl h (fun f6 h => ?_)
      refine z_aload_n (pc := 34) dX7_sizeOf_34 rfl ?_
      refine z_iload_n (pc := 35) dX7_sizeOf_35 rfl ?_
      refine k_cVi (pc := 36) (av := [.int p1]) zc7 rfl dX7_sizeOf_36 lk_X7_254 rfl (by decide) (by decide) (by decide) rfl rfl h (fun r7 f7 h => ?_)
      refine z_istore_n (pc := 39) (lv' := [(3, .int r7), (2, .int r1), (0, .ref 52), (1, .int p1)]) dX7_sizeOf_39 (Nat.le_of_ble_eq_true rfl) rfl ?_
      refine z_iload_n (pc := 40) dX7_sizeOf_40 rfl ?_
      refine z_aload_n (pc := 41) dX7_sizeOf_41 rfl ?_
      refine z_iload_n (pc := 42) dX7_sizeOf_42 rfl ?_
      refine k_cVi (pc := 43) (av := [.int p1]) zc7 rfl dX7_sizeOf_43 lk_X7_260 rfl (by decide) (by decide) (by decide) rfl rfl h (fun r8 f8 h => ?_)
      refine z_iadd (pc := 46) dX7_sizeOf_46 ?_
      refine z_istore_n (pc := 47) (lv' := [(3, .int (r7 + r8)), (2, .int r1), (0, .ref 52), (1, .int p1)]) dX7_sizeOf_47 (Nat.le_of_ble_eq_true rfl) rfl ?_
      refine z_iload_n (pc := 48) dX7_sizeOf_48 rfl ?_
      refine z_iconst (pc := 49) (v := 2) dX7_sizeOf_49 ic_2 ?_
      refine z_icmp_ne (pc := 50) (t := 58) dX7_sizeOf_50 (by decide) (fun c_50 => ?_) (fun c_50 => ?_)
      · replace h := h.1 c_50
        refine z_iload_n (pc := 58) dX7_sizeOf_58 rfl ?_
        exact k_iret (pc := 59) hX dX7_sizeOf_59 rfl rfl h
      · replace h := h.2 c_50
        refine z_iload_n (pc := 53) dX7_sizeOf_53 rfl ?_
        refine z_ineg (pc := 54) dX7_sizeOf_54 ?_
        refine z_goto (pc := 55) (t := 59) dX7_sizeOf_55 (by decide) ?_
        exact k_iret (pc := 59) hX dX7_sizeOf_59 rfl rfl h
  · replace h := h.2 c_8
    refine z_aload_n (pc := 11) dX7_sizeOf_11 rfl ?_
    refine z_iload_n (pc := 12) dX7_sizeOf_12 rfl ?_
    refine k_cVi (pc := 13) (av := [.int p1]) zc7 rfl dX7_sizeOf_13 lk_X7_257 rfl (by decide) (by decide) (by decide) rfl rfl h (fun r9 f9 h => ?_)
    exact k_iret (pc := 16) hX dX7_sizeOf_16 rfl rfl h
set_option maxRecDepth 20000 in
theorem w_X7_ways {f : zF} {K : Int32 → zF → Prop} {p1 : Int32} (h : ∀ X, kR X (zRi K) → ci mX7_barred [.ref 52, .int p1, .int 1] (zup f 52 0 0) (fun r1 f1 => ((0 ≤ r1 → Z X mX7_ways 23 [(0, .ref 52), (1, .int p1), (2, .int r1), (3, .int 1), (4, .int 0)] [] (zC f1)) ∧ (¬ 0 ≤ r1 → K r1 f1)))) : ci mX7_ways [.ref 52, .int p1] f K := by
  refine ci_of (by decide) (Nat.le_of_ble_eq_true rfl) (fun X hX => ?_)
  replace h := h X hX
  refine z_aload_n (pc := 0) dX7_ways_0 rfl ?_
  refine z_iconst (pc := 1) (v := 0) dX7_ways_1 ic_0 ?_
  refine k_puti (pc := 2) (j := 0) zc7 dX7_ways_2 fl_X7_41 (by decide) rfl rfl rfl (by decide) rfl ?_
  refine z_aload_n (pc := 5) dX7_ways_5 rfl ?_
  refine z_iload_n (pc := 6) dX7_ways_6 rfl ?_
  refine z_iconst (pc := 7) (v := 1) dX7_ways_7 ic_1 ?_
  refine k_cVi (pc := 8) (av := [.int p1, .int 1]) zc7 rfl dX7_ways_8 lk_X7_229 rfl (by decide) (by decide) (by decide) rfl rfl h (fun r1 f1 h => ?_)
  refine z_istore_n (pc := 11) (lv' := [(2, .int r1), (0, .ref 52), (1, .int p1)]) dX7_ways_11 (Nat.le_of_ble_eq_true rfl) rfl ?_
  refine z_iload_n (pc := 12) dX7_ways_12 rfl ?_
  refine z_if_ge (pc := 13) (t := 18) dX7_ways_13 (by decide) (fun c_13 => ?_) (fun c_13 => ?_)
  · replace h := h.1 c_13
    refine z_iconst (pc := 18) (v := 1) dX7_ways_18 ic_1 ?_
    refine z_istore_n (pc := 19) (lv' := [(3, .int 1), (2, .int r1), (0, .ref 52), (1, .int p1)]) dX7_ways_19 (Nat.le_of_ble_eq_true rfl) rfl ?_
    refine z_iconst (pc := 20) (v := 0) dX7_ways_20 ic_0 ?_
    refine z_istore (pc := 21) (lv' := [(4, .int 0), (3, .int 1), (2, .int r1), (0, .ref 52), (1, .int p1)]) dX7_ways_21 (Nat.le_of_ble_eq_true rfl) rfl ?_
    exact z_sub [3, 4, 2, 1, 0] rfl h
  · replace h := h.2 c_13
    refine z_iload_n (pc := 16) dX7_ways_16 rfl ?_
    exact k_iret (pc := 17) hX dX7_ways_17 rfl rfl h
set_option maxRecDepth 20000 in
theorem l_X7_ways_23 {X : zX} {f : zF} {K : Int32 → zF → Prop}  {x1 x2 x3 x4 : Int32}  (hX : kR X (zRi K)) (h : (((f 56 2) ≤ x4 → K x3 f) ∧ (¬ (f 56 2) ≤ x4 → ci mX7_on [.ref 52, .int 0, .int x4] f (fun r102 f102 => (vp_in ((40 * x1) + x4) 320 ∧ ci mX7_behindBy [.ref 52, .int r102, .int (f102 55 (Int32.toNatClampNeg ((40 * x1) + x4)))] f102 (fun r103 f103 => ci mX7_bits [.int r103] f103 (fun r104 f104 => Z X mX7_ways 23 [(0, .ref 52), (1, .int x1), (2, .int x2), (3, .int (x3 * r104)), (4, .int (x4 + 1))] [] (zC f104)))))))) : Z X mX7_ways 23 [(0, .ref 52), (1, .int x1), (2, .int x2), (3, .int x3), (4, .int x4)] [] (zC f) := by
  refine z_iload (pc := 23) dX7_ways_23 rfl ?_
  refine z_aload_n (pc := 25) dX7_ways_25 rfl ?_
  refine k_getr (pc := 26) (j := 5) zc7 dX7_ways_26 fl_X7_19 (by decide) rfl (by decide) rfl (k2 := 56) rfl ?_
  refine z_iconst (pc := 29) (v := 2) dX7_ways_29 ic_2 ?_
  refine k_iald (pc := 30) (j := 2) (v := (f 56 2)) dX7_ways_30 (by decide) rfl (by unfold vp_in; decide) (by decide) rfl ?_
  refine z_icmp_ge (pc := 31) (t := 69) dX7_ways_31 (by decide) (fun c_31 => ?_) (fun c_31 => ?_)
  · replace h := h.1 c_31
    refine z_iload_n (pc := 69) dX7_ways_69 rfl ?_
    exact k_iret (pc := 70) hX dX7_ways_70 rfl rfl h
  · replace h := h.2 c_31
    refine z_iload_n (pc := 34) dX7_ways_34 rfl ?_
    refine z_aload_n (pc := 35) dX7_ways_35 rfl ?_
    refine z_aload_n (pc := 36) dX7_ways_36 rfl ?_
    refine z_iconst (pc := 37) (v := 0) dX7_ways_37 ic_0 ?_
    refine z_iload (pc := 38) dX7_ways_38 rfl ?_
    refine k_cVi (pc := 40) (av := [.int 0, .int x4]) zc7 rfl dX7_ways_40 lk_X7_170 rfl (by decide) (by decide) (by decide) rfl rfl h (fun r102 f102 h => ?_)
    refine z_aload_n (pc := 43) dX7_ways_43 rfl ?_
    refine k_getr (pc := 44) (j := 4) zc7 dX7_ways_44 fl_X7_16 (by decide) rfl (by decide) rfl (k2 := 55) rfl ?_
    refine z_bipush (pc := 47) (v := 40) dX7_ways_47 bi_40 ?_
    refine z_iload_n (pc := 49) dX7_ways_49 rfl ?_
    refine z_imul (pc := 50) dX7_ways_50 ?_
    refine z_iload (pc := 51) dX7_ways_51 rfl ?_
    refine z_iadd (pc := 53) dX7_ways_53 ?_
    refine k_iald (pc := 54) (j := (Int32.toNatClampNeg ((40 * x1) + x4))) (v := (f102 55 (Int32.toNatClampNeg ((40 * x1) + x4)))) dX7_ways_54 (by decide) rfl h.1 rfl rfl ?_
    replace h := h.2
    refine k_cVi (pc := 55) (av := [.int r102, .int (f102 55 (Int32.toNatClampNeg ((40 * x1) + x4)))]) zc7 rfl dX7_ways_55 lk_X7_233 rfl (by decide) (by decide) (by decide) rfl rfl h (fun r103 f103 h => ?_)
    refine k_cSi (pc := 58) (av := [.int r103]) dX7_ways_58 lk_X7_185 rfl (by decide) (by decide) rfl h (fun r104 f104 h => ?_)
    refine z_imul (pc := 61) dX7_ways_61 ?_
    refine z_istore_n (pc := 62) (lv' := [(3, .int (x3 * r104)), (0, .ref 52), (1, .int x1), (2, .int x2), (4, .int x4)]) dX7_ways_62 (Nat.le_of_ble_eq_true rfl) rfl ?_
    refine z_iinc (pc := 63) (v := (x4 + 1)) (lv' := [(4, .int (x4 + 1)), (3, .int (x3 * r104)), (0, .ref 52), (1, .int x1), (2, .int x2)]) dX7_ways_63 rfl (congrArg (fun z => x4 + z) ic_1) (Nat.le_of_ble_eq_true rfl) rfl ?_
    refine z_goto (pc := 66) (t := 23) dX7_ways_66 (by decide) ?_
    exact z_sub [2, 3, 4, 1, 0] rfl h
set_option maxRecDepth 20000 in
theorem w_X1_answer {f : zF} {K : Int32 → zF → Prop} {p2 : Int32} {p3 : Int32} (h : ci mX2_kindOf [.ref 12, .int p2] (zup f 22 1 0) (fun r1 f1 => ci mX6_isOfKind [.int r1, .int 4] f1 (fun r2 f2 => ((¬ p3 = 0 → ((r2 = 0 → ci mX1_markOfPlain [.ref 22, .ref 12, .int p2] f2 (fun r3 f3 => K r3 f3)) ∧ (¬ r2 = 0 → ci mX1_markOfMark [.ref 22, .ref 12, .int p2] f2 (fun r4 f4 => K r4 f4)))) ∧ (p3 = 0 → ((r2 = 0 → ci mX1_sizeOfPlain [.ref 22, .ref 12, .int p2] f2 (fun r5 f5 => K r5 f5)) ∧ (¬ r2 = 0 → ci mX1_sizeOfMark [.ref 22, .ref 12, .int p2] f2 (fun r6 f6 => K r6 f6)))))))) : ci mX1_answer [.ref 22, .ref 12, .int p2, .int p3] f K := by
  refine ci_of (by decide) (Nat.le_of_ble_eq_true rfl) (fun X hX => ?_)
  refine z_aload_n (pc := 0) dX1_answer_0 rfl ?_
  refine z_iconst (pc := 1) (v := 0) dX1_answer_1 ic_0 ?_
  refine k_puti (pc := 2) (j := 1) zc1 dX1_answer_2 fl_X1_15 (by decide) rfl rfl rfl (by decide) rfl ?_
  refine z_aload_n (pc := 5) dX1_answer_5 rfl ?_
  refine z_iload_n (pc := 6) dX1_answer_6 rfl ?_
  refine k_cVi (pc := 7) (av := [.int p2]) zc2 rfl dX1_answer_7 lk_X1_19 rfl (by decide) (by decide) (by decide) rfl rfl h (fun r1 f1 h => ?_)
  refine z_iconst (pc := 10) (v := 4) dX1_answer_10 ic_4 ?_
  refine k_cSi (pc := 11) (av := [.int r1, .int 4]) dX1_answer_11 lk_X1_25 rfl (by decide) (by decide) rfl h (fun r2 f2 h => ?_)
  refine z_istore (pc := 14) (lv' := [(4, .int r2), (0, .ref 22), (1, .ref 12), (2, .int p2), (3, .int p3)]) dX1_answer_14 (Nat.le_of_ble_eq_true rfl) rfl ?_
  refine z_iload_n (pc := 16) dX1_answer_16 rfl ?_
  refine z_if_ne (pc := 17) (t := 41) dX1_answer_17 (by decide) (fun c_17 => ?_) (fun c_17 => ?_)
  · replace h := h.1 c_17
    refine z_iload (pc := 41) dX1_answer_41 rfl ?_
    refine z_if_eq (pc := 43) (t := 55) dX1_answer_43 (by decide) (fun c_43 => ?_) (fun c_43 => ?_)
    · replace h := h.1 c_43
      refine z_aload_n (pc := 55) dX1_answer_55 rfl ?_
      refine z_aload_n (pc := 56) dX1_answer_56 rfl ?_
      refine z_iload_n (pc := 57) dX1_answer_57 rfl ?_
      refine k_cVi (pc := 58) (av := [.ref 12, .int p2]) zc1 rfl dX1_answer_58 lk_X1_39 rfl (by decide) (by decide) (by decide) rfl rfl h (fun r3 f3 h => ?_)
      exact k_iret (pc := 61) hX dX1_answer_61 rfl rfl h
    · replace h := h.2 c_43
      refine z_aload_n (pc := 46) dX1_answer_46 rfl ?_
      refine z_aload_n (pc := 47) dX1_answer_47 rfl ?_
      refine z_iload_n (pc := 48) dX1_answer_48 rfl ?_
      refine k_cVi (pc := 49) (av := [.ref 12, .int p2]) zc1 rfl dX1_answer_49 lk_X1_36 rfl (by decide) (by decide) (by decide) rfl rfl h (fun r4 f4 h => ?_)
      refine z_goto (pc := 52) (t := 61) dX1_answer_52 (by decide) ?_
      exact k_iret (pc := 61) hX dX1_answer_61 rfl rfl h
  · replace h := h.2 c_17
    refine z_iload (pc := 20) dX1_answer_20 rfl ?_
    refine z_if_eq (pc := 22) (t := 34) dX1_answer_22 (by decide) (fun c_22 => ?_) (fun c_22 => ?_)
    · replace h := h.1 c_22
      refine z_aload_n (pc := 34) dX1_answer_34 rfl ?_
      refine z_aload_n (pc := 35) dX1_answer_35 rfl ?_
      refine z_iload_n (pc := 36) dX1_answer_36 rfl ?_
      refine k_cVi (pc := 37) (av := [.ref 12, .int p2]) zc1 rfl dX1_answer_37 lk_X1_33 rfl (by decide) (by decide) (by decide) rfl rfl h (fun r5 f5 h => ?_)
      exact k_iret (pc := 40) hX dX1_answer_40 rfl rfl h
    · replace h := h.2 c_22
      refine z_aload_n (pc := 25) dX1_answer_25 rfl ?_
      refine z_aload_n (pc := 26) dX1_answer_26 rfl ?_
      refine z_iload_n (pc := 27) dX1_answer_27 rfl ?_
      refine k_cVi (pc := 28) (av := [.ref 12, .int p2]) zc1 rfl dX1_answer_28 lk_X1_29 rfl (by decide) (by decide) (by decide) rfl rfl h (fun r6 f6 h => ?_)
      refine z_goto (pc := 31) (t := 40) dX1_answer_31 (by decide) ?_
      exact k_iret (pc := 40) hX dX1_answer_40 rfl rfl h
set_option maxRecDepth 20000 in
theorem w_X2_behindFor {f : zF} {K : Int32 → zF → Prop} {k : Nat} {p1 : Int32} {p2 : Int32} (hk : isPage k) (h : ci mX2_letterAt [.ref k, .int 0, .int p1] f (fun r1 f1 => ci mX2_behindToRead [.ref k, .int r1, .int p2] f1 (fun r2 f2 => K r2 f2))) : ci mX2_behindFor [.ref k, .int p1, .int p2] f K := by
  refine ci_of (by decide) (Nat.le_of_ble_eq_true rfl) (fun X hX => ?_)
  refine z_aload_n (pc := 0) dX2_behindFor_0 rfl ?_
  refine z_aload_n (pc := 1) dX2_behindFor_1 rfl ?_
  refine z_iconst (pc := 2) (v := 0) dX2_behindFor_2 ic_0 ?_
  refine z_iload_n (pc := 3) dX2_behindFor_3 rfl ?_
  refine k_cVi (pc := 4) (av := [.int 0, .int p1]) zc2 rfl dX2_behindFor_4 lk_X2_49 rfl (by decide) (by decide) (pg_lt hk) (pg_sh hk) rfl h (fun r1 f1 h => ?_)
  refine z_iload_n (pc := 7) dX2_behindFor_7 rfl ?_
  refine k_cVi (pc := 8) (av := [.int r1, .int p2]) zc2 rfl dX2_behindFor_8 lk_X2_82 rfl (by decide) (by decide) (pg_lt hk) (pg_sh hk) rfl h (fun r2 f2 h => ?_)
  exact k_iret (pc := 11) hX dX2_behindFor_11 rfl rfl h
set_option maxRecDepth 20000 in
theorem w_X2_fewestAnew {f : zF} {K : Int32 → zF → Prop} {k : Nat} {p1 : Int32} {p2 : Int32} (hk : isPage k) (h : ∀ X, kR X (zRi K) → Z X mX2_fewestAnew 6 [(0, .ref k), (1, .int p1), (2, .int p2), (3, .int (-1000000)), (4, .int 0)] [] (zC f)) : ci mX2_fewestAnew [.ref k, .int p1, .int p2] f K := by
  refine ci_of (by decide) (Nat.le_of_ble_eq_true rfl) (fun X hX => ?_)
  replace h := h X hX
  refine z_ldc (pc := 0) (v := -1000000) dX2_fewestAnew_0 co_X2_88 ?_
  refine z_istore_n (pc := 2) (lv' := [(3, .int (-1000000)), (0, .ref k), (1, .int p1), (2, .int p2)]) dX2_fewestAnew_2 (Nat.le_of_ble_eq_true rfl) rfl ?_
  refine z_iconst (pc := 3) (v := 0) dX2_fewestAnew_3 ic_0 ?_
  refine z_istore (pc := 4) (lv' := [(4, .int 0), (3, .int (-1000000)), (0, .ref k), (1, .int p1), (2, .int p2)]) dX2_fewestAnew_4 (Nat.le_of_ble_eq_true rfl) rfl ?_
  exact z_sub [2, 3, 4, 1, 0] rfl h
set_option maxRecDepth 20000 in
theorem l_X2_fewestAnew_6 {X : zX} {f : zF} {K : Int32 → zF → Prop} {k : Nat} (hk : isPage k) {x1 x2 x3 x4 : Int32}  (hX : kR X (zRi K)) (h : (((f k 1) ≤ x4 → K x3 f) ∧ (¬ (f k 1) ≤ x4 → ci mX2_behindToRead [.ref k, .int x4, .int x2] f (fun r101 f101 => ((r101 = 0 → Z X mX2_fewestAnew 6 [(0, .ref k), (1, .int x1), (2, .int x2), (3, .int x3), (4, .int (x4 + 1))] [] (zC f101)) ∧ (¬ r101 = 0 → ci mX2_letterBehind [.ref k, .int 0, .int x1] f101 (fun r102 f102 => ci mX6_hasBit [.int r101, .int r102] f102 (fun r103 f103 => (∀ z104 : Int32, z104 = (if r103 = 0 then 0 else 1) → ci mX2_letterAt [.ref k, .int 0, .int x1] f103 (fun r105 f105 => (∀ z106 : Int32, z106 = (if x4 = r105 then 1 else 0) → ((¬ x3 = (-1000000) → (∀ z107 : Int32, z107 = (if ((2 - z104) - z106) < x3 then ((2 - z104) - z106) else x3) → Z X mX2_fewestAnew 6 [(0, .ref k), (1, .int x1), (2, .int x2), (3, .int z107), (4, .int (x4 + 1))] [] (zC f105))) ∧ (x3 = (-1000000) → Z X mX2_fewestAnew 6 [(0, .ref k), (1, .int x1), (2, .int x2), (3, .int ((2 - z104) - z106)), (4, .int (x4 + 1))] [] (zC f105)))))))))))))) : Z X mX2_fewestAnew 6 [(0, .ref k), (1, .int x1), (2, .int x2), (3, .int x3), (4, .int x4)] [] (zC f) := by
  refine z_iload (pc := 6) dX2_fewestAnew_6 rfl ?_
  refine z_aload_n (pc := 8) dX2_fewestAnew_8 rfl ?_
  refine k_geti (pc := 9) (j := 1) zc2 dX2_fewestAnew_9 fl_X2_27 (by decide) rfl (pg_lt hk) (pg_sh hk) (v := (f k 1)) rfl ?_
  refine z_icmp_ge (pc := 12) (t := 101) dX2_fewestAnew_12 (by decide) (fun c_12 => ?_) (fun c_12 => ?_)
  · replace h := h.1 c_12
    refine z_iload_n (pc := 101) dX2_fewestAnew_101 rfl ?_
    exact k_iret (pc := 102) hX dX2_fewestAnew_102 rfl rfl h
  · replace h := h.2 c_12
    refine z_aload_n (pc := 15) dX2_fewestAnew_15 rfl ?_
    refine z_iload (pc := 16) dX2_fewestAnew_16 rfl ?_
    refine z_iload_n (pc := 18) dX2_fewestAnew_18 rfl ?_
    refine k_cVi (pc := 19) (av := [.int x4, .int x2]) zc2 rfl dX2_fewestAnew_19 lk_X2_82 rfl (by decide) (by decide) (pg_lt hk) (pg_sh hk) rfl h (fun r101 f101 h => ?_)
    refine z_istore (pc := 22) (lv' := [(5, .int r101), (0, .ref k), (1, .int x1), (2, .int x2), (3, .int x3), (4, .int x4)]) dX2_fewestAnew_22 (Nat.le_of_ble_eq_true rfl) rfl ?_
    refine z_iload (pc := 24) dX2_fewestAnew_24 rfl ?_
    refine z_if_eq (pc := 26) (t := 95) dX2_fewestAnew_26 (by decide) (fun c_26 => ?_) (fun c_26 => ?_)
    · replace h := h.1 c_26
      refine z_iinc (pc := 95) (v := (x4 + 1)) (lv' := [(4, .int (x4 + 1)), (5, .int r101), (0, .ref k), (1, .int x1), (2, .int x2), (3, .int x3)]) dX2_fewestAnew_95 rfl (congrArg (fun z => x4 + z) ic_1) (Nat.le_of_ble_eq_true rfl) rfl ?_
      refine z_goto (pc := 98) (t := 6) dX2_fewestAnew_98 (by decide) ?_
      exact z_sub [2, 3, 4, 5, 0] rfl h
    · replace h := h.2 c_26
      refine z_iload (pc := 29) dX2_fewestAnew_29 rfl ?_
      refine z_aload_n (pc := 31) dX2_fewestAnew_31 rfl ?_
      refine z_iconst (pc := 32) (v := 0) dX2_fewestAnew_32 ic_0 ?_
      refine z_iload_n (pc := 33) dX2_fewestAnew_33 rfl ?_
      refine k_cVi (pc := 34) (av := [.int 0, .int x1]) zc2 rfl dX2_fewestAnew_34 lk_X2_60 rfl (by decide) (by decide) (pg_lt hk) (pg_sh hk) rfl h (fun r102 f102 h => ?_)
      refine k_cSi (pc := 37) (av := [.int r101, .int r102]) dX2_fewestAnew_37 lk_X2_89 rfl (by decide) (by decide) rfl h (fun r103 f103 h => ?_)
      suffices hm109 : Z X mX2_fewestAnew 48 [(5, .int r101), (0, .ref k), (1, .int x1), (2, .int x2), (3, .int x3), (4, .int x4)] [.int (if r103 = 0 then 0 else 1)] (zC f103) by
        refine z_if_eq (pc := 40) (t := 47) dX2_fewestAnew_40 (by decide) (fun c_40 => ?_) (fun c_40 => ?_)
        · rw [if_pos c_40] at hm109
          refine z_iconst (pc := 47) (v := 0) dX2_fewestAnew_47 ic_0 ?_
          exact hm109
        · rw [if_neg c_40] at hm109
          refine z_iconst (pc := 43) (v := 1) dX2_fewestAnew_43 ic_1 ?_
          refine z_goto (pc := 44) (t := 48) dX2_fewestAnew_44 (by decide) ?_
          exact hm109
      refine z_name (fun z104 e_z104 => ?_)
      replace h := h z104 e_z104
      refine z_istore (pc := 48) (lv' := [(6, .int z104), (5, .int r101), (0, .ref k), (1, .int x1), (2, .int x2), (3, .int x3), (4, .int x4)]) dX2_fewestAnew_48 (Nat.le_of_ble_eq_true rfl) rfl ?_
      refine z_iload (pc := 50) dX2_fewestAnew_50 rfl ?_
      refine z_aload_n (pc := 52) dX2_fewestAnew_52 rfl ?_
      refine z_iconst (pc := 53) (v := 0) dX2_fewestAnew_53 ic_0 ?_
      refine z_iload_n (pc := 54) dX2_fewestAnew_54 rfl ?_
      refine k_cVi (pc := 55) (av := [.int 0, .int x1]) zc2 rfl dX2_fewestAnew_55 lk_X2_49 rfl (by decide) (by decide) (pg_lt hk) (pg_sh hk) rfl h (fun r105 f105 h => ?_)
      suffices hm108 : Z X mX2_fewestAnew 66 [(6, .int z104), (5, .int r101), (0, .ref k), (1, .int x1), (2, .int x2), (3, .int x3), (4, .int x4)] [.int (if x4 = r105 then 1 else 0)] (zC f105) by
        refine z_icmp_ne (pc := 58) (t := 65) dX2_fewestAnew_58 (by decide) (fun c_58 => ?_) (fun c_58 => ?_)
        · rw [if_neg c_58] at hm108
          refine z_iconst (pc := 65) (v := 0) dX2_fewestAnew_65 ic_0 ?_
          exact hm108
        · rw [if_pos c_58] at hm108
          refine z_iconst (pc := 61) (v := 1) dX2_fewestAnew_61 ic_1 ?_
          refine z_goto (pc := 62) (t := 66) dX2_fewestAnew_62 (by decide) ?_
          exact hm108
      refine z_name (fun z106 e_z106 => ?_)
      replace h := h z106 e_z106
      refine z_istore (pc := 66) (lv' := [(7, .int z106), (6, .int z104), (5, .int r101), (0, .ref k), (1, .int x1), (2, .int x2), (3, .int x3), (4, .int x4)]) dX2_fewestAnew_66 (Nat.le_of_ble_eq_true rfl) rfl ?_
      refine z_iconst (pc := 68) (v := 2) dX2_fewestAnew_68 ic_2 ?_
      refine z_iload (pc := 69) dX2_fewestAnew_69 rfl ?_
      refine z_isub (pc := 71) dX2_fewestAnew_71 ?_
      refine z_iload (pc := 72) dX2_fewestAnew_72 rfl ?_
      refine z_isub (pc := 74) dX2_fewestAnew_74 ?_
      refine z_istore (pc := 75) (lv' := [(8, .int ((2 - z104) - z106)), (7, .int z106), (6, .int z104), (5, .int r101), (0, .ref k), (1, .int x1), (2, .int x2), (3, .int x3), (4, .int x4)]) dX2_fewestAnew_75 (Nat.le_of_ble_eq_true rfl) rfl ?_
      refine z_iload_n (pc := 77) dX2_fewestAnew_77 rfl ?_
      refine z_ldc (pc := 78) (v := -1000000) dX2_fewestAnew_78 co_X2_88 ?_
      refine z_icmp_ne (pc := 80) (t := 88) dX2_fewestAnew_80 (by decide) (fun c_80 => ?_) (fun c_80 => ?_)
      · replace h := h.1 c_80
        refine z_iload_n (pc := 88) dX2_fewestAnew_88 rfl ?_
        refine z_iload (pc := 89) dX2_fewestAnew_89 rfl ?_
        refine z_mmin (pc := 91) dX2_fewestAnew_91 lk_X2_93 (by decide) rfl ?_
        refine z_name (fun z107 e_z107 => ?_)
        replace h := h z107 e_z107
        refine z_istore_n (pc := 94) (lv' := [(3, .int z107), (8, .int ((2 - z104) - z106)), (7, .int z106), (6, .int z104), (5, .int r101), (0, .ref k), (1, .int x1), (2, .int x2), (4, .int x4)]) dX2_fewestAnew_94 (Nat.le_of_ble_eq_true rfl) rfl ?_
        refine z_iinc (pc := 95) (v := (x4 + 1)) (lv' := [(4, .int (x4 + 1)), (3, .int z107), (8, .int ((2 - z104) - z106)), (7, .int z106), (6, .int z104), (5, .int r101), (0, .ref k), (1, .int x1), (2, .int x2)]) dX2_fewestAnew_95 rfl (congrArg (fun z => x4 + z) ic_1) (Nat.le_of_ble_eq_true rfl) rfl ?_
        refine z_goto (pc := 98) (t := 6) dX2_fewestAnew_98 (by decide) ?_
        exact z_sub [6, 7, 8, 1, 0] rfl h
      · replace h := h.2 c_80
        refine z_iload (pc := 83) dX2_fewestAnew_83 rfl ?_
        refine z_goto (pc := 85) (t := 94) dX2_fewestAnew_85 (by decide) ?_
        refine z_istore_n (pc := 94) (lv' := [(3, .int ((2 - z104) - z106)), (8, .int ((2 - z104) - z106)), (7, .int z106), (6, .int z104), (5, .int r101), (0, .ref k), (1, .int x1), (2, .int x2), (4, .int x4)]) dX2_fewestAnew_94 (Nat.le_of_ble_eq_true rfl) rfl ?_
        refine z_iinc (pc := 95) (v := (x4 + 1)) (lv' := [(4, .int (x4 + 1)), (3, .int ((2 - z104) - z106)), (8, .int ((2 - z104) - z106)), (7, .int z106), (6, .int z104), (5, .int r101), (0, .ref k), (1, .int x1), (2, .int x2)]) dX2_fewestAnew_95 rfl (congrArg (fun z => x4 + z) ic_1) (Nat.le_of_ble_eq_true rfl) rfl ?_
        refine z_goto (pc := 98) (t := 6) dX2_fewestAnew_98 (by decide) ?_
        exact z_sub [6, 7, 8, 1, 0] rfl h
