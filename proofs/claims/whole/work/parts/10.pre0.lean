/-! ===== preconditions, by program ===== -/
set_option maxRecDepth 20000 in
theorem w_J0_coder_7d493 {f : zF} {K : Int32 → zF → Prop} {w : Nat} (hw : w < 8) (h : K 0 f) : ci mJ0_coder_7d493 [.ref (1000 + w)] f K := by
  refine ci_of (by decide) (Nat.le_of_ble_eq_true rfl) (fun X hX => ?_)
  refine z_getsC (pc := 0) dJ0_coder_7d493_0 fl_J0_38 ?_
  refine z_if_eq (pc := 3) (t := 13) dJ0_coder_7d493_3 (by decide) (fun c_3 => ?_) (fun c_3 => ?_)
  · exact absurd c_3 (by decide)
  · refine z_aload_n (pc := 6) dJ0_coder_7d493_6 rfl ?_
    refine z_gSc (pc := 7) dJ0_coder_7d493_7 hw fl_J0_15 ?_
    refine z_goto (pc := 10) (t := 14) dJ0_coder_7d493_10 (by decide) ?_
    exact k_iret (pc := 14) hX dJ0_coder_7d493_14 rfl rfl h
set_option maxRecDepth 20000 in
theorem w_J0_isLatin1_aae02 {f : zF} {K : Int32 → zF → Prop} {w : Nat} (hw : w < 8) (h : K 1 f) : ci mJ0_isLatin1_aae02 [.ref (1000 + w)] f K := by
  refine ci_of (by decide) (Nat.le_of_ble_eq_true rfl) (fun X hX => ?_)
  refine z_getsC (pc := 0) dJ0_isLatin1_aae02_0 fl_J0_38 ?_
  refine z_if_eq (pc := 3) (t := 17) dJ0_isLatin1_aae02_3 (by decide) (fun c_3 => ?_) (fun c_3 => ?_)
  · exact absurd c_3 (by decide)
  · refine z_aload_n (pc := 6) dJ0_isLatin1_aae02_6 rfl ?_
    refine z_gSc (pc := 7) dJ0_isLatin1_aae02_7 hw fl_J0_15 ?_
    refine z_if_ne (pc := 10) (t := 17) dJ0_isLatin1_aae02_10 (by decide) (fun c_10 => ?_) (fun c_10 => ?_)
    · exact absurd c_10 (by decide)
    · refine z_iconst (pc := 13) (v := 1) dJ0_isLatin1_aae02_13 ic_1 ?_
      refine z_goto (pc := 14) (t := 18) dJ0_isLatin1_aae02_14 (by decide) ?_
      exact k_iret (pc := 18) hX dJ0_isLatin1_aae02_18 rfl rfl h
set_option maxRecDepth 20000 in
theorem w_J3_checkIndex_8e157 {f : zF} {K : Int32 → zF → Prop} {p1 : Int32} {p2 : Int32} (h : ((p1 < 0 → False) ∧ (¬ p1 < 0 → ((p1 < p2 → K p1 f) ∧ (¬ p1 < p2 → False))))) : ci mJ3_checkIndex_8e157 [.int p1, .int p2, .ref 1300] f K := by
  refine ci_of (by decide) (Nat.le_of_ble_eq_true rfl) (fun X hX => ?_)
  refine z_iload_n (pc := 0) dJ3_checkIndex_8e157_0 rfl ?_
  refine z_if_lt (pc := 1) (t := 9) dJ3_checkIndex_8e157_1 (by decide) (fun c_1 => ?_) (fun c_1 => ?_)
  · replace h := h.1 c_1
    refine z_aload_n (pc := 9) dJ3_checkIndex_8e157_9 rfl ?_
    refine z_iload_n (pc := 10) dJ3_checkIndex_8e157_10 rfl ?_
    refine z_iload_n (pc := 11) dJ3_checkIndex_8e157_11 rfl ?_
    exact h.elim
  · replace h := h.2 c_1
    refine z_iload_n (pc := 4) dJ3_checkIndex_8e157_4 rfl ?_
    refine z_iload_n (pc := 5) dJ3_checkIndex_8e157_5 rfl ?_
    refine z_icmp_lt (pc := 6) (t := 16) dJ3_checkIndex_8e157_6 (by decide) (fun c_6 => ?_) (fun c_6 => ?_)
    · replace h := h.1 c_6
      refine z_iload_n (pc := 16) dJ3_checkIndex_8e157_16 rfl ?_
      exact k_iret (pc := 17) hX dJ3_checkIndex_8e157_17 rfl rfl h
    · replace h := h.2 c_6
      refine z_aload_n (pc := 9) dJ3_checkIndex_8e157_9 rfl ?_
      refine z_iload_n (pc := 10) dJ3_checkIndex_8e157_10 rfl ?_
      refine z_iload_n (pc := 11) dJ3_checkIndex_8e157_11 rfl ?_
      exact h.elim
set_option maxRecDepth 20000 in
theorem w_J3_checkIndex_8e157_null {f : zF} {K : Int32 → zF → Prop} {p1 : Int32} {p2 : Int32} (h : ((p1 < 0 → False) ∧ (¬ p1 < 0 → ((p1 < p2 → K p1 f) ∧ (¬ p1 < p2 → False))))) : ci mJ3_checkIndex_8e157 [.int p1, .int p2, .null] f K := by
  refine ci_of (by decide) (Nat.le_of_ble_eq_true rfl) (fun X hX => ?_)
  refine z_iload_n (pc := 0) dJ3_checkIndex_8e157_0 rfl ?_
  refine z_if_lt (pc := 1) (t := 9) dJ3_checkIndex_8e157_1 (by decide) (fun c_1 => ?_) (fun c_1 => ?_)
  · replace h := h.1 c_1
    refine z_aload_nN (pc := 9) dJ3_checkIndex_8e157_9 rfl ?_
    refine z_iload_n (pc := 10) dJ3_checkIndex_8e157_10 rfl ?_
    refine z_iload_n (pc := 11) dJ3_checkIndex_8e157_11 rfl ?_
    exact h.elim
  · replace h := h.2 c_1
    refine z_iload_n (pc := 4) dJ3_checkIndex_8e157_4 rfl ?_
    refine z_iload_n (pc := 5) dJ3_checkIndex_8e157_5 rfl ?_
    refine z_icmp_lt (pc := 6) (t := 16) dJ3_checkIndex_8e157_6 (by decide) (fun c_6 => ?_) (fun c_6 => ?_)
    · replace h := h.1 c_6
      refine z_iload_n (pc := 16) dJ3_checkIndex_8e157_16 rfl ?_
      exact k_iret (pc := 17) hX dJ3_checkIndex_8e157_17 rfl rfl h
    · replace h := h.2 c_6
      refine z_aload_nN (pc := 9) dJ3_checkIndex_8e157_9 rfl ?_
      refine z_iload_n (pc := 10) dJ3_checkIndex_8e157_10 rfl ?_
      refine z_iload_n (pc := 11) dJ3_checkIndex_8e157_11 rfl ?_
      exact h.elim
set_option maxRecDepth 20000 in
theorem w_J6_bitCount_0f7a4 {f : zF} {K : Int32 → zF → Prop} {p1 : Int32} (h : (∀ z1 : Int32, z1 = ((Int32.toUInt32 p1 >>> (Int32.toUInt32 1 &&& Int32.toUInt32 31)).toInt32) → (∀ z2 : Int32, z2 = ((Int32.toUInt32 (p1 - (z1 &&& 1431655765)) >>> (Int32.toUInt32 2 &&& Int32.toUInt32 31)).toInt32) → (∀ z3 : Int32, z3 = (((p1 - (z1 &&& 1431655765)) &&& 858993459) + (z2 &&& 858993459)) → (∀ z4 : Int32, z4 = ((Int32.toUInt32 z3 >>> (Int32.toUInt32 4 &&& Int32.toUInt32 31)).toInt32) → (∀ z5 : Int32, z5 = ((Int32.toUInt32 ((z3 + z4) &&& 252645135) >>> (Int32.toUInt32 8 &&& Int32.toUInt32 31)).toInt32) → (∀ z6 : Int32, z6 = ((Int32.toUInt32 (((z3 + z4) &&& 252645135) + z5) >>> (Int32.toUInt32 16 &&& Int32.toUInt32 31)).toInt32) → (∀ z7 : Int32, z7 = (((((z3 + z4) &&& 252645135) + z5) + z6) &&& 63) → K z7 f)))))))) : ci mJ6_bitCount_0f7a4 [.int p1] f K := by
  refine ci_of (by decide) (Nat.le_of_ble_eq_true rfl) (fun X hX => ?_)
  refine z_iload_n (pc := 0) dJ6_bitCount_0f7a4_0 rfl ?_
  refine z_iload_n (pc := 1) dJ6_bitCount_0f7a4_1 rfl ?_
  refine z_iconst (pc := 2) (v := 1) dJ6_bitCount_0f7a4_2 ic_1 ?_
  refine z_iushr (pc := 3) dJ6_bitCount_0f7a4_3 ?_
  refine z_name (fun z1 e_z1 => ?_)
  replace h := h z1 e_z1
  refine z_ldcw (pc := 4) (v := 1431655765) dJ6_bitCount_0f7a4_4 co_J6_265 ?_
  refine z_iand (pc := 7) dJ6_bitCount_0f7a4_7 ?_
  refine z_isub (pc := 8) dJ6_bitCount_0f7a4_8 ?_
  refine z_istore_n (pc := 9) (lv' := [(0, .int (p1 - (z1 &&& 1431655765)))]) dJ6_bitCount_0f7a4_9 (Nat.le_of_ble_eq_true rfl) rfl ?_
  refine z_iload_n (pc := 10) dJ6_bitCount_0f7a4_10 rfl ?_
  refine z_ldcw (pc := 11) (v := 858993459) dJ6_bitCount_0f7a4_11 co_J6_266 ?_
  refine z_iand (pc := 14) dJ6_bitCount_0f7a4_14 ?_
  refine z_iload_n (pc := 15) dJ6_bitCount_0f7a4_15 rfl ?_
  refine z_iconst (pc := 16) (v := 2) dJ6_bitCount_0f7a4_16 ic_2 ?_
  refine z_iushr (pc := 17) dJ6_bitCount_0f7a4_17 ?_
  refine z_name (fun z2 e_z2 => ?_)
  replace h := h z2 e_z2
  refine z_ldcw (pc := 18) (v := 858993459) dJ6_bitCount_0f7a4_18 co_J6_266 ?_
  refine z_iand (pc := 21) dJ6_bitCount_0f7a4_21 ?_
  refine z_iadd (pc := 22) dJ6_bitCount_0f7a4_22 ?_
  refine z_name (fun z3 e_z3 => ?_)
  replace h := h z3 e_z3
  refine z_istore_n (pc := 23) (lv' := [(0, .int z3)]) dJ6_bitCount_0f7a4_23 (Nat.le_of_ble_eq_true rfl) rfl ?_
  refine z_iload_n (pc := 24) dJ6_bitCount_0f7a4_24 rfl ?_
  refine z_iload_n (pc := 25) dJ6_bitCount_0f7a4_25 rfl ?_
  refine z_iconst (pc := 26) (v := 4) dJ6_bitCount_0f7a4_26 ic_4 ?_
  refine z_iushr (pc := 27) dJ6_bitCount_0f7a4_27 ?_
  refine z_name (fun z4 e_z4 => ?_)
  replace h := h z4 e_z4
  refine z_iadd (pc := 28) dJ6_bitCount_0f7a4_28 ?_
  refine z_ldcw (pc := 29) (v := 252645135) dJ6_bitCount_0f7a4_29 co_J6_267 ?_
  refine z_iand (pc := 32) dJ6_bitCount_0f7a4_32 ?_
  refine z_istore_n (pc := 33) (lv' := [(0, .int ((z3 + z4) &&& 252645135))]) dJ6_bitCount_0f7a4_33 (Nat.le_of_ble_eq_true rfl) rfl ?_
  refine z_iload_n (pc := 34) dJ6_bitCount_0f7a4_34 rfl ?_
  refine z_iload_n (pc := 35) dJ6_bitCount_0f7a4_35 rfl ?_
  refine z_bipush (pc := 36) (v := 8) dJ6_bitCount_0f7a4_36 bi_8 ?_
  refine z_iushr (pc := 38) dJ6_bitCount_0f7a4_38 ?_
  refine z_name (fun z5 e_z5 => ?_)
  replace h := h z5 e_z5
  refine z_iadd (pc := 39) dJ6_bitCount_0f7a4_39 ?_
  refine z_istore_n (pc := 40) (lv' := [(0, .int (((z3 + z4) &&& 252645135) + z5))]) dJ6_bitCount_0f7a4_40 (Nat.le_of_ble_eq_true rfl) rfl ?_
  refine z_iload_n (pc := 41) dJ6_bitCount_0f7a4_41 rfl ?_
  refine z_iload_n (pc := 42) dJ6_bitCount_0f7a4_42 rfl ?_
  refine z_bipush (pc := 43) (v := 16) dJ6_bitCount_0f7a4_43 bi_16 ?_
  refine z_iushr (pc := 45) dJ6_bitCount_0f7a4_45 ?_
  refine z_name (fun z6 e_z6 => ?_)
  replace h := h z6 e_z6
  refine z_iadd (pc := 46) dJ6_bitCount_0f7a4_46 ?_
  refine z_istore_n (pc := 47) (lv' := [(0, .int ((((z3 + z4) &&& 252645135) + z5) + z6))]) dJ6_bitCount_0f7a4_47 (Nat.le_of_ble_eq_true rfl) rfl ?_
  refine z_iload_n (pc := 48) dJ6_bitCount_0f7a4_48 rfl ?_
  refine z_bipush (pc := 49) (v := 63) dJ6_bitCount_0f7a4_49 bi_63 ?_
  refine z_iand (pc := 51) dJ6_bitCount_0f7a4_51 ?_
  refine z_name (fun z7 e_z7 => ?_)
  replace h := h z7 e_z7
  exact k_iret (pc := 52) hX dJ6_bitCount_0f7a4_52 rfl rfl h
set_option maxRecDepth 20000 in
theorem w_X0_forgetAll {f : zF} {K : zF → Prop}  (h : K (zup f 18 4 0)) : cv mX0_forgetAll [.ref 18] f K := by
  refine cv_of (by decide) (Nat.le_of_ble_eq_true rfl) (fun X hX => ?_)
  refine z_aload_n (pc := 0) dX0_forgetAll_0 rfl ?_
  refine z_iconst (pc := 1) (v := 0) dX0_forgetAll_1 ic_0 ?_
  refine k_puti (pc := 2) (j := 4) zc0 dX0_forgetAll_2 fl_X0_25 (by decide) rfl rfl rfl (by decide) rfl ?_
  exact k_vret (pc := 5) hX dX0_forgetAll_5 rfl h
set_option maxRecDepth 20000 in
theorem w_X2_hasLetter {f : zF} {K : Int32 → zF → Prop} {k : Nat} {p1 : Int32} (hk : isPage k) (h : ((p1 < 0 → K 0 f) ∧ (¬ p1 < 0 → (((f k 1) ≤ p1 → K 0 f) ∧ (¬ (f k 1) ≤ p1 → K 1 f))))) : ci mX2_hasLetter [.ref k, .int p1] f K := by
  refine ci_of (by decide) (Nat.le_of_ble_eq_true rfl) (fun X hX => ?_)
  refine z_iload_n (pc := 0) dX2_hasLetter_0 rfl ?_
  refine z_if_lt (pc := 1) (t := 16) dX2_hasLetter_1 (by decide) (fun c_1 => ?_) (fun c_1 => ?_)
  · replace h := h.1 c_1
    refine z_iconst (pc := 16) (v := 0) dX2_hasLetter_16 ic_0 ?_
    exact k_iret (pc := 17) hX dX2_hasLetter_17 rfl rfl h
  · replace h := h.2 c_1
    refine z_iload_n (pc := 4) dX2_hasLetter_4 rfl ?_
    refine z_aload_n (pc := 5) dX2_hasLetter_5 rfl ?_
    refine k_geti (pc := 6) (j := 1) zc2 dX2_hasLetter_6 fl_X2_27 (by decide) rfl (pg_lt hk) (pg_sh hk) (v := (f k 1)) rfl ?_
    refine z_icmp_ge (pc := 9) (t := 16) dX2_hasLetter_9 (by decide) (fun c_9 => ?_) (fun c_9 => ?_)
    · replace h := h.1 c_9
      refine z_iconst (pc := 16) (v := 0) dX2_hasLetter_16 ic_0 ?_
      exact k_iret (pc := 17) hX dX2_hasLetter_17 rfl rfl h
    · replace h := h.2 c_9
      refine z_iconst (pc := 12) (v := 1) dX2_hasLetter_12 ic_1 ?_
      refine z_goto (pc := 13) (t := 17) dX2_hasLetter_13 (by decide) ?_
      exact k_iret (pc := 17) hX dX2_hasLetter_17 rfl rfl h
set_option maxRecDepth 20000 in
theorem w_X2_hasPlace {f : zF} {K : Int32 → zF → Prop} {k : Nat} {p1 : Int32} {p2 : Int32} (hk : isPage k) (h : ((p1 = 0 → ((p2 < 0 → K 0 f) ∧ (¬ p2 < 0 → (((f k 2) ≤ p2 → K 0 f) ∧ (¬ (f k 2) ≤ p2 → K 1 f))))) ∧ (¬ p1 = 0 → ((¬ p1 = 1 → K 0 f) ∧ (p1 = 1 → ((p2 < 0 → K 0 f) ∧ (¬ p2 < 0 → (((f k 2) ≤ p2 → K 0 f) ∧ (¬ (f k 2) ≤ p2 → K 1 f))))))))) : ci mX2_hasPlace [.ref k, .int p1, .int p2] f K := by
  refine ci_of (by decide) (Nat.le_of_ble_eq_true rfl) (fun X hX => ?_)
  refine z_iload_n (pc := 0) dX2_hasPlace_0 rfl ?_
  refine z_if_eq (pc := 1) (t := 9) dX2_hasPlace_1 (by decide) (fun c_1 => ?_) (fun c_1 => ?_)
  · replace h := h.1 c_1
    refine z_iload_n (pc := 9) dX2_hasPlace_9 rfl ?_
    refine z_if_lt (pc := 10) (t := 25) dX2_hasPlace_10 (by decide) (fun c_10 => ?_) (fun c_10 => ?_)
    · replace h := h.1 c_10
      refine z_iconst (pc := 25) (v := 0) dX2_hasPlace_25 ic_0 ?_
      exact k_iret (pc := 26) hX dX2_hasPlace_26 rfl rfl h
    · replace h := h.2 c_10
      refine z_iload_n (pc := 13) dX2_hasPlace_13 rfl ?_
      refine z_aload_n (pc := 14) dX2_hasPlace_14 rfl ?_
      refine k_geti (pc := 15) (j := 2) zc2 dX2_hasPlace_15 fl_X2_31 (by decide) rfl (pg_lt hk) (pg_sh hk) (v := (f k 2)) rfl ?_
      refine z_icmp_ge (pc := 18) (t := 25) dX2_hasPlace_18 (by decide) (fun c_18 => ?_) (fun c_18 => ?_)
      · replace h := h.1 c_18
        refine z_iconst (pc := 25) (v := 0) dX2_hasPlace_25 ic_0 ?_
        exact k_iret (pc := 26) hX dX2_hasPlace_26 rfl rfl h
      · replace h := h.2 c_18
        refine z_iconst (pc := 21) (v := 1) dX2_hasPlace_21 ic_1 ?_
        refine z_goto (pc := 22) (t := 26) dX2_hasPlace_22 (by decide) ?_
        exact k_iret (pc := 26) hX dX2_hasPlace_26 rfl rfl h
  · replace h := h.2 c_1
    refine z_iload_n (pc := 4) dX2_hasPlace_4 rfl ?_
    refine z_iconst (pc := 5) (v := 1) dX2_hasPlace_5 ic_1 ?_
    refine z_icmp_ne (pc := 6) (t := 25) dX2_hasPlace_6 (by decide) (fun c_6 => ?_) (fun c_6 => ?_)
    · replace h := h.1 c_6
      refine z_iconst (pc := 25) (v := 0) dX2_hasPlace_25 ic_0 ?_
      exact k_iret (pc := 26) hX dX2_hasPlace_26 rfl rfl h
    · replace h := h.2 c_6
      refine z_iload_n (pc := 9) dX2_hasPlace_9 rfl ?_
      refine z_if_lt (pc := 10) (t := 25) dX2_hasPlace_10 (by decide) (fun c_10 => ?_) (fun c_10 => ?_)
      · replace h := h.1 c_10
        refine z_iconst (pc := 25) (v := 0) dX2_hasPlace_25 ic_0 ?_
        exact k_iret (pc := 26) hX dX2_hasPlace_26 rfl rfl h
      · replace h := h.2 c_10
        refine z_iload_n (pc := 13) dX2_hasPlace_13 rfl ?_
        refine z_aload_n (pc := 14) dX2_hasPlace_14 rfl ?_
        refine k_geti (pc := 15) (j := 2) zc2 dX2_hasPlace_15 fl_X2_31 (by decide) rfl (pg_lt hk) (pg_sh hk) (v := (f k 2)) rfl ?_
        refine z_icmp_ge (pc := 18) (t := 25) dX2_hasPlace_18 (by decide) (fun c_18 => ?_) (fun c_18 => ?_)
        · replace h := h.1 c_18
          refine z_iconst (pc := 25) (v := 0) dX2_hasPlace_25 ic_0 ?_
          exact k_iret (pc := 26) hX dX2_hasPlace_26 rfl rfl h
        · replace h := h.2 c_18
          refine z_iconst (pc := 21) (v := 1) dX2_hasPlace_21 ic_1 ?_
          refine z_goto (pc := 22) (t := 26) dX2_hasPlace_22 (by decide) ?_
          exact k_iret (pc := 26) hX dX2_hasPlace_26 rfl rfl h
set_option maxRecDepth 20000 in
theorem w_X2_isThere {f : zF} {K : Int32 → zF → Prop} {k : Nat} (hk : isPage k) (h : (((f k 1) ≤ 0 → K 0 f) ∧ (¬ (f k 1) ≤ 0 → K 1 f))) : ci mX2_isThere [.ref k] f K := by
  refine ci_of (by decide) (Nat.le_of_ble_eq_true rfl) (fun X hX => ?_)
  refine z_aload_n (pc := 0) dX2_isThere_0 rfl ?_
  refine k_geti (pc := 1) (j := 1) zc2 dX2_isThere_1 fl_X2_27 (by decide) rfl (pg_lt hk) (pg_sh hk) (v := (f k 1)) rfl ?_
  refine z_if_le (pc := 4) (t := 11) dX2_isThere_4 (by decide) (fun c_4 => ?_) (fun c_4 => ?_)
  · replace h := h.1 c_4
    refine z_iconst (pc := 11) (v := 0) dX2_isThere_11 ic_0 ?_
    exact k_iret (pc := 12) hX dX2_isThere_12 rfl rfl h
  · replace h := h.2 c_4
    refine z_iconst (pc := 7) (v := 1) dX2_isThere_7 ic_1 ?_
    refine z_goto (pc := 8) (t := 12) dX2_isThere_8 (by decide) ?_
    exact k_iret (pc := 12) hX dX2_isThere_12 rfl rfl h
set_option maxRecDepth 20000 in
theorem w_X2_makeEmpty {f : zF} {K : zF → Prop} {k : Nat} (hk : isPage k) (h : K (zup (zup (zup f k 0 0) k 1 0) k 2 0)) : cv mX2_makeEmpty [.ref k] f K := by
  refine cv_of (by decide) (Nat.le_of_ble_eq_true rfl) (fun X hX => ?_)
  refine z_aload_n (pc := 0) dX2_makeEmpty_0 rfl ?_
  refine z_iconst (pc := 1) (v := 0) dX2_makeEmpty_1 ic_0 ?_
  refine k_puti (pc := 2) (j := 0) zc2 dX2_makeEmpty_2 fl_X2_34 (by decide) rfl rfl rfl (pg_lt hk) (pg_sh hk) ?_
  refine z_aload_n (pc := 5) dX2_makeEmpty_5 rfl ?_
  refine z_iconst (pc := 6) (v := 0) dX2_makeEmpty_6 ic_0 ?_
  refine k_puti (pc := 7) (j := 1) zc2 dX2_makeEmpty_7 fl_X2_27 (by decide) rfl rfl rfl (pg_lt hk) (pg_sh hk) ?_
  refine z_aload_n (pc := 10) dX2_makeEmpty_10 rfl ?_
  refine z_iconst (pc := 11) (v := 0) dX2_makeEmpty_11 ic_0 ?_
  refine k_puti (pc := 12) (j := 2) zc2 dX2_makeEmpty_12 fl_X2_31 (by decide) rfl rfl rfl (pg_lt hk) (pg_sh hk) ?_
  exact k_vret (pc := 15) hX dX2_makeEmpty_15 rfl h
set_option maxRecDepth 20000 in
theorem w_X3_fails {f : zF} {K : Int32 → zF → Prop} {p1 : Int32} (h : K 0 (zup (zup f 3 2 p1) 3 3 (f 4 3))) : ci mX3_fails [.ref 3, .int p1] f K := by
  refine ci_of (by decide) (Nat.le_of_ble_eq_true rfl) (fun X hX => ?_)
  refine z_aload_n (pc := 0) dX3_fails_0 rfl ?_
  refine z_iload_n (pc := 1) dX3_fails_1 rfl ?_
  refine k_puti (pc := 2) (j := 2) zc3 dX3_fails_2 fl_X3_125 (by decide) rfl rfl rfl (by decide) rfl ?_
  refine z_aload_n (pc := 5) dX3_fails_5 rfl ?_
  refine z_aload_n (pc := 6) dX3_fails_6 rfl ?_
  refine k_getr (pc := 7) (j := 0) zc3 dX3_fails_7 fl_X3_12 (by decide) rfl (by decide) rfl (k2 := 4) rfl ?_
  refine k_geti (pc := 10) (j := 3) zc5 dX3_fails_10 fl_X3_128 (by decide) rfl (by decide) rfl (v := (f 4 3)) rfl ?_
  refine k_puti (pc := 13) (j := 3) zc3 dX3_fails_13 fl_X3_131 (by decide) rfl rfl rfl (by decide) rfl ?_
  refine z_iconst (pc := 16) (v := 0) dX3_fails_16 ic_0 ?_
  exact k_iret (pc := 17) hX dX3_fails_17 rfl rfl h
set_option maxRecDepth 20000 in
theorem w_X4_holds {f : zF} {K : Int32 → zF → Prop} {k : Nat} {p1 : Int32} {p2 : Int32} (hk : isRow k) (h : ((p1 < 0 → K 0 f) ∧ (¬ p1 < 0 → ((p2 < 0 → K 0 f) ∧ (¬ p2 < 0 → (((f k 2) < p1 → K 0 f) ∧ (¬ (f k 2) < p1 → ((((f k 2) - p1) < p2 → K 0 f) ∧ (¬ ((f k 2) - p1) < p2 → K 1 f))))))))) : ci mX4_holds [.ref k, .int p1, .int p2] f K := by
  refine ci_of (by decide) (Nat.le_of_ble_eq_true rfl) (fun X hX => ?_)
  refine z_iload_n (pc := 0) dX4_holds_0 rfl ?_
  refine z_if_lt (pc := 1) (t := 30) dX4_holds_1 (by decide) (fun c_1 => ?_) (fun c_1 => ?_)
  · replace h := h.1 c_1
    refine z_iconst (pc := 30) (v := 0) dX4_holds_30 ic_0 ?_
    exact k_iret (pc := 31) hX dX4_holds_31 rfl rfl h
  · replace h := h.2 c_1
    refine z_iload_n (pc := 4) dX4_holds_4 rfl ?_
    refine z_if_lt (pc := 5) (t := 30) dX4_holds_5 (by decide) (fun c_5 => ?_) (fun c_5 => ?_)
    · replace h := h.1 c_5
      refine z_iconst (pc := 30) (v := 0) dX4_holds_30 ic_0 ?_
      exact k_iret (pc := 31) hX dX4_holds_31 rfl rfl h
    · replace h := h.2 c_5
      refine z_iload_n (pc := 8) dX4_holds_8 rfl ?_
      refine z_aload_n (pc := 9) dX4_holds_9 rfl ?_
      refine k_geti (pc := 10) (j := 2) zc4 dX4_holds_10 fl_X4_19 (by decide) rfl (rw_lt hk) (rw_sh hk) (v := (f k 2)) rfl ?_
      refine z_icmp_gt (pc := 13) (t := 30) dX4_holds_13 (by decide) (fun c_13 => ?_) (fun c_13 => ?_)
      · replace h := h.1 c_13
        refine z_iconst (pc := 30) (v := 0) dX4_holds_30 ic_0 ?_
        exact k_iret (pc := 31) hX dX4_holds_31 rfl rfl h
      · replace h := h.2 c_13
        refine z_iload_n (pc := 16) dX4_holds_16 rfl ?_
        refine z_aload_n (pc := 17) dX4_holds_17 rfl ?_
        refine k_geti (pc := 18) (j := 2) zc4 dX4_holds_18 fl_X4_19 (by decide) rfl (rw_lt hk) (rw_sh hk) (v := (f k 2)) rfl ?_
        refine z_iload_n (pc := 21) dX4_holds_21 rfl ?_
        refine z_isub (pc := 22) dX4_holds_22 ?_
        refine z_icmp_gt (pc := 23) (t := 30) dX4_holds_23 (by decide) (fun c_23 => ?_) (fun c_23 => ?_)
        · replace h := h.1 c_23
          refine z_iconst (pc := 30) (v := 0) dX4_holds_30 ic_0 ?_
          exact k_iret (pc := 31) hX dX4_holds_31 rfl rfl h
        · replace h := h.2 c_23
          refine z_iconst (pc := 26) (v := 1) dX4_holds_26 ic_1 ?_
          refine z_goto (pc := 27) (t := 31) dX4_holds_27 (by decide) ?_
          exact k_iret (pc := 31) hX dX4_holds_31 rfl rfl h
set_option maxRecDepth 20000 in
theorem w_X4_isMissing {f : zF} {K : Int32 → zF → Prop} {k : Nat} (hk : isRow k) (h : ((¬ (f k 1) = (-1) → K 0 f) ∧ ((f k 1) = (-1) → K 1 f))) : ci mX4_isMissing [.ref k] f K := by
  refine ci_of (by decide) (Nat.le_of_ble_eq_true rfl) (fun X hX => ?_)
  refine z_aload_n (pc := 0) dX4_isMissing_0 rfl ?_
  refine k_geti (pc := 1) (j := 1) zc4 dX4_isMissing_1 fl_X4_15 (by decide) rfl (rw_lt hk) (rw_sh hk) (v := (f k 1)) rfl ?_
  refine z_iconst (pc := 4) (v := -1) dX4_isMissing_4 ic_m1 ?_
  refine z_icmp_ne (pc := 5) (t := 12) dX4_isMissing_5 (by decide) (fun c_5 => ?_) (fun c_5 => ?_)
  · replace h := h.1 c_5
    refine z_iconst (pc := 12) (v := 0) dX4_isMissing_12 ic_0 ?_
    exact k_iret (pc := 13) hX dX4_isMissing_13 rfl rfl h
  · replace h := h.2 c_5
    refine z_iconst (pc := 8) (v := 1) dX4_isMissing_8 ic_1 ?_
    refine z_goto (pc := 9) (t := 13) dX4_isMissing_9 (by decide) ?_
    exact k_iret (pc := 13) hX dX4_isMissing_13 rfl rfl h
set_option maxRecDepth 20000 in
theorem w_X4_make {f : zF} {K : zF → Prop} {k : Nat} {p1 : Int32} {p2 : Int32} (hk : isRow k) (h : ∀ X, kR X (zRv K) → Z X mX4_make 12 [(0, .ref k), (1, .int p1), (2, .int p2), (3, .int 0)] [] (zC (zup (zup f k 1 p1) k 2 p2))) : cv mX4_make [.ref k, .int p1, .int p2] f K := by
  refine cv_of (by decide) (Nat.le_of_ble_eq_true rfl) (fun X hX => ?_)
  replace h := h X hX
  refine z_aload_n (pc := 0) dX4_make_0 rfl ?_
  refine z_iload_n (pc := 1) dX4_make_1 rfl ?_
  refine k_puti (pc := 2) (j := 1) zc4 dX4_make_2 fl_X4_15 (by decide) rfl rfl rfl (rw_lt hk) (rw_sh hk) ?_
  refine z_aload_n (pc := 5) dX4_make_5 rfl ?_
  refine z_iload_n (pc := 6) dX4_make_6 rfl ?_
  refine k_puti (pc := 7) (j := 2) zc4 dX4_make_7 fl_X4_19 (by decide) rfl rfl rfl (rw_lt hk) (rw_sh hk) ?_
  refine z_iconst (pc := 10) (v := 0) dX4_make_10 ic_0 ?_
  refine z_istore_n (pc := 11) (lv' := [(3, .int 0), (0, .ref k), (1, .int p1), (2, .int p2)]) dX4_make_11 (Nat.le_of_ble_eq_true rfl) rfl ?_
  exact z_sub [1, 2, 3, 0] rfl h
set_option maxRecDepth 20000 in
theorem l_X4_make_12 {X : zX} {f : zF} {K : zF → Prop} {k : Nat} (hk : isRow k) {x1 x2 x3 : Int32}  (hX : kR X (zRv K)) (h : ((40 ≤ x3 → K f) ∧ (¬ 40 ≤ x3 → (vp_in x3 40 ∧ Z X mX4_make 12 [(0, .ref k), (1, .int x1), (2, .int x2), (3, .int (x3 + 1))] [] (zC (zup f (k + 1) (Int32.toNatClampNeg x3) 0)))))) : Z X mX4_make 12 [(0, .ref k), (1, .int x1), (2, .int x2), (3, .int x3)] [] (zC f) := by
  refine z_iload_n (pc := 12) dX4_make_12 rfl ?_
  refine z_aload_n (pc := 13) dX4_make_13 rfl ?_
  refine k_getr (pc := 14) (j := 0) zc4 dX4_make_14 fl_X4_9 (by decide) rfl (rw_lt hk) (rw_sh hk) (rw_rf1 hk) ?_
  refine k_alen (pc := 17) dX4_make_17 (rw_lt1 hk) (rw_sh1 hk) (by decide) rfl ?_
  refine z_icmp_ge (pc := 18) (t := 34) dX4_make_18 (by decide) (fun c_18 => ?_) (fun c_18 => ?_)
  · replace h := h.1 c_18
    exact k_vret (pc := 34) hX dX4_make_34 rfl h
  · replace h := h.2 c_18
    refine z_aload_n (pc := 21) dX4_make_21 rfl ?_
    refine k_getr (pc := 22) (j := 0) zc4 dX4_make_22 fl_X4_9 (by decide) rfl (rw_lt hk) (rw_sh hk) (rw_rf1 hk) ?_
    refine z_iload_n (pc := 25) dX4_make_25 rfl ?_
    refine z_iconst (pc := 26) (v := 0) dX4_make_26 ic_0 ?_
    refine k_iast (pc := 27) (j := (Int32.toNatClampNeg x3)) dX4_make_27 (rw_lt1 hk) (rw_sh1 hk) h.1 rfl ?_
    replace h := h.2
    refine z_iinc (pc := 28) (v := (x3 + 1)) (lv' := [(3, .int (x3 + 1)), (0, .ref k), (1, .int x1), (2, .int x2)]) dX4_make_28 rfl (congrArg (fun z => x3 + z) ic_1) (Nat.le_of_ble_eq_true rfl) rfl ?_
    refine z_goto (pc := 31) (t := 12) dX4_make_31 (by decide) ?_
    exact z_sub [1, 2, 3, 0] rfl h
set_option maxRecDepth 20000 in
theorem w_X4_makeMissing {f : zF} {K : zF → Prop} {k : Nat} (hk : isRow k) (h : K (zup (zup f k 1 (-1)) k 2 0)) : cv mX4_makeMissing [.ref k] f K := by
  refine cv_of (by decide) (Nat.le_of_ble_eq_true rfl) (fun X hX => ?_)
  refine z_aload_n (pc := 0) dX4_makeMissing_0 rfl ?_
  refine z_iconst (pc := 1) (v := -1) dX4_makeMissing_1 ic_m1 ?_
  refine k_puti (pc := 2) (j := 1) zc4 dX4_makeMissing_2 fl_X4_15 (by decide) rfl rfl rfl (rw_lt hk) (rw_sh hk) ?_
  refine z_aload_n (pc := 5) dX4_makeMissing_5 rfl ?_
  refine z_iconst (pc := 6) (v := 0) dX4_makeMissing_6 ic_0 ?_
  refine k_puti (pc := 7) (j := 2) zc4 dX4_makeMissing_7 fl_X4_19 (by decide) rfl rfl rfl (rw_lt hk) (rw_sh hk) ?_
  exact k_vret (pc := 10) hX dX4_makeMissing_10 rfl h
set_option maxRecDepth 20000 in
theorem w_X5_makeEmpty {f : zF} {K : zF → Prop}  (h : K (zup f 4 1 0)) : cv mX5_makeEmpty [.ref 4] f K := by
  refine cv_of (by decide) (Nat.le_of_ble_eq_true rfl) (fun X hX => ?_)
  refine z_aload_n (pc := 0) dX5_makeEmpty_0 rfl ?_
  refine z_iconst (pc := 1) (v := 0) dX5_makeEmpty_1 ic_0 ?_
  refine k_puti (pc := 2) (j := 1) zc5 dX5_makeEmpty_2 fl_X5_15 (by decide) rfl rfl rfl (by decide) rfl ?_
  exact k_vret (pc := 5) hX dX5_makeEmpty_5 rfl h
set_option maxRecDepth 20000 in
theorem w_X5_sortOf {f : zF} {K : Int32 → zF → Prop} {p1 : Int32} (h : ((p1 < 97 → ((p1 < 48 → ((p1 = 10 → K 6 f) ∧ (p1 = 32 → K 6 f) ∧ (p1 = 47 → K 4 f) ∧ (p1 = 59 → K 3 f) ∧ (¬ p1 = 10 → ¬ p1 = 32 → ¬ p1 = 47 → ¬ p1 = 59 → K 5 f))) ∧ (¬ p1 < 48 → ((57 < p1 → ((p1 = 10 → K 6 f) ∧ (p1 = 32 → K 6 f) ∧ (p1 = 47 → K 4 f) ∧ (p1 = 59 → K 3 f) ∧ (¬ p1 = 10 → ¬ p1 = 32 → ¬ p1 = 47 → ¬ p1 = 59 → K 5 f))) ∧ (¬ 57 < p1 → K 2 f))))) ∧ (¬ p1 < 97 → ((122 < p1 → ((p1 < 48 → ((p1 = 10 → K 6 f) ∧ (p1 = 32 → K 6 f) ∧ (p1 = 47 → K 4 f) ∧ (p1 = 59 → K 3 f) ∧ (¬ p1 = 10 → ¬ p1 = 32 → ¬ p1 = 47 → ¬ p1 = 59 → K 5 f))) ∧ (¬ p1 < 48 → ((57 < p1 → ((p1 = 10 → K 6 f) ∧ (p1 = 32 → K 6 f) ∧ (p1 = 47 → K 4 f) ∧ (p1 = 59 → K 3 f) ∧ (¬ p1 = 10 → ¬ p1 = 32 → ¬ p1 = 47 → ¬ p1 = 59 → K 5 f))) ∧ (¬ 57 < p1 → K 2 f))))) ∧ (¬ 122 < p1 → K 1 f))))) : ci mX5_sortOf [.int p1] f K := by
  refine ci_of (by decide) (Nat.le_of_ble_eq_true rfl) (fun X hX => ?_)
  refine z_iload_n (pc := 0) dX5_sortOf_0 rfl ?_
  refine z_bipush (pc := 1) (v := 97) dX5_sortOf_1 bi_97 ?_
  refine z_icmp_lt (pc := 3) (t := 14) dX5_sortOf_3 (by decide) (fun c_3 => ?_) (fun c_3 => ?_)
  · replace h := h.1 c_3
    refine z_iload_n (pc := 14) dX5_sortOf_14 rfl ?_
    refine z_bipush (pc := 15) (v := 48) dX5_sortOf_15 bi_48 ?_
    refine z_icmp_lt (pc := 17) (t := 28) dX5_sortOf_17 (by decide) (fun c_17 => ?_) (fun c_17 => ?_)
    · replace h := h.1 c_17
      refine z_iload_n (pc := 28) dX5_sortOf_28 rfl ?_
      rcases Classical.em (p1 = 10) with c_29_0 | c_29_0
      · replace h := h.1 c_29_0
        refine z_lsw (pc := 29) (t := 76) (off := 47) dX5_sortOf_29 (by decide) (by rw [c_29_0]; decide) (by decide) ?_
        refine z_bipush (pc := 76) (v := 6) dX5_sortOf_76 bi_6 ?_
        exact k_iret (pc := 78) hX dX5_sortOf_78 rfl rfl h
      · rcases Classical.em (p1 = 32) with c_29_1 | c_29_1
        · replace h := h.2.1 c_29_1
          refine z_lsw (pc := 29) (t := 76) (off := 47) dX5_sortOf_29 (by decide) (by rw [c_29_1]; decide) (by decide) ?_
          refine z_bipush (pc := 76) (v := 6) dX5_sortOf_76 bi_6 ?_
          exact k_iret (pc := 78) hX dX5_sortOf_78 rfl rfl h
        · rcases Classical.em (p1 = 47) with c_29_2 | c_29_2
          · replace h := h.2.2.1 c_29_2
            refine z_lsw (pc := 29) (t := 74) (off := 45) dX5_sortOf_29 (by decide) (by rw [c_29_2]; decide) (by decide) ?_
            refine z_iconst (pc := 74) (v := 4) dX5_sortOf_74 ic_4 ?_
            exact k_iret (pc := 75) hX dX5_sortOf_75 rfl rfl h
          · rcases Classical.em (p1 = 59) with c_29_3 | c_29_3
            · replace h := h.2.2.2.1 c_29_3
              refine z_lsw (pc := 29) (t := 72) (off := 43) dX5_sortOf_29 (by decide) (by rw [c_29_3]; decide) (by decide) ?_
              refine z_iconst (pc := 72) (v := 3) dX5_sortOf_72 ic_3 ?_
              exact k_iret (pc := 73) hX dX5_sortOf_73 rfl rfl h
            · replace h := h.2.2.2.2 c_29_0 c_29_1 c_29_2 c_29_3
              refine z_lsw (pc := 29) (t := 79) (off := 50) dX5_sortOf_29 (by decide) (by show Op.lookupswitch.offset [(10, 47), (32, 47), (47, 45), (59, 43)] _ _ = _; rw [lv_osw c_29_0 (by decide), lv_osw c_29_1 (by decide), lv_osw c_29_2 (by decide), lv_osw c_29_3 (by decide)]; rfl) (by decide) ?_
              refine z_iconst (pc := 79) (v := 5) dX5_sortOf_79 ic_5 ?_
              exact k_iret (pc := 80) hX dX5_sortOf_80 rfl rfl h
    · replace h := h.2 c_17
      refine z_iload_n (pc := 20) dX5_sortOf_20 rfl ?_
      refine z_bipush (pc := 21) (v := 57) dX5_sortOf_21 bi_57 ?_
      refine z_icmp_gt (pc := 23) (t := 28) dX5_sortOf_23 (by decide) (fun c_23 => ?_) (fun c_23 => ?_)
      · replace h := h.1 c_23
        refine z_iload_n (pc := 28) dX5_sortOf_28 rfl ?_
        rcases Classical.em (p1 = 10) with c_29_0 | c_29_0
        · replace h := h.1 c_29_0
          refine z_lsw (pc := 29) (t := 76) (off := 47) dX5_sortOf_29 (by decide) (by rw [c_29_0]; decide) (by decide) ?_
          refine z_bipush (pc := 76) (v := 6) dX5_sortOf_76 bi_6 ?_
          exact k_iret (pc := 78) hX dX5_sortOf_78 rfl rfl h
        · rcases Classical.em (p1 = 32) with c_29_1 | c_29_1
          · replace h := h.2.1 c_29_1
            refine z_lsw (pc := 29) (t := 76) (off := 47) dX5_sortOf_29 (by decide) (by rw [c_29_1]; decide) (by decide) ?_
            refine z_bipush (pc := 76) (v := 6) dX5_sortOf_76 bi_6 ?_
            exact k_iret (pc := 78) hX dX5_sortOf_78 rfl rfl h
          · rcases Classical.em (p1 = 47) with c_29_2 | c_29_2
            · replace h := h.2.2.1 c_29_2
              refine z_lsw (pc := 29) (t := 74) (off := 45) dX5_sortOf_29 (by decide) (by rw [c_29_2]; decide) (by decide) ?_
              refine z_iconst (pc := 74) (v := 4) dX5_sortOf_74 ic_4 ?_
              exact k_iret (pc := 75) hX dX5_sortOf_75 rfl rfl h
            · rcases Classical.em (p1 = 59) with c_29_3 | c_29_3
              · replace h := h.2.2.2.1 c_29_3
                refine z_lsw (pc := 29) (t := 72) (off := 43) dX5_sortOf_29 (by decide) (by rw [c_29_3]; decide) (by decide) ?_
                refine z_iconst (pc := 72) (v := 3) dX5_sortOf_72 ic_3 ?_
                exact k_iret (pc := 73) hX dX5_sortOf_73 rfl rfl h
              · replace h := h.2.2.2.2 c_29_0 c_29_1 c_29_2 c_29_3
                refine z_lsw (pc := 29) (t := 79) (off := 50) dX5_sortOf_29 (by decide) (by show Op.lookupswitch.offset [(10, 47), (32, 47), (47, 45), (59, 43)] _ _ = _; rw [lv_osw c_29_0 (by decide), lv_osw c_29_1 (by decide), lv_osw c_29_2 (by decide), lv_osw c_29_3 (by decide)]; rfl) (by decide) ?_
                refine z_iconst (pc := 79) (v := 5) dX5_sortOf_79 ic_5 ?_
                exact k_iret (pc := 80) hX dX5_sortOf_80 rfl rfl h
      · replace h := h.2 c_23
        refine z_iconst (pc := 26) (v := 2) dX5_sortOf_26 ic_2 ?_
        exact k_iret (pc := 27) hX dX5_sortOf_27 rfl rfl h
  · replace h := h.2 c_3
    refine z_iload_n (pc := 6) dX5_sortOf_6 rfl ?_
    refine z_bipush (pc := 7) (v := 122) dX5_sortOf_7 bi_122 ?_
    refine z_icmp_gt (pc := 9) (t := 14) dX5_sortOf_9 (by decide) (fun c_9 => ?_) (fun c_9 => ?_)
    · replace h := h.1 c_9
      refine z_iload_n (pc := 14) dX5_sortOf_14 rfl ?_
      refine z_bipush (pc := 15) (v := 48) dX5_sortOf_15 bi_48 ?_
      refine z_icmp_lt (pc := 17) (t := 28) dX5_sortOf_17 (by decide) (fun c_17 => ?_) (fun c_17 => ?_)
      · replace h := h.1 c_17
        refine z_iload_n (pc := 28) dX5_sortOf_28 rfl ?_
        rcases Classical.em (p1 = 10) with c_29_0 | c_29_0
        · replace h := h.1 c_29_0
          refine z_lsw (pc := 29) (t := 76) (off := 47) dX5_sortOf_29 (by decide) (by rw [c_29_0]; decide) (by decide) ?_
          refine z_bipush (pc := 76) (v := 6) dX5_sortOf_76 bi_6 ?_
          exact k_iret (pc := 78) hX dX5_sortOf_78 rfl rfl h
        · rcases Classical.em (p1 = 32) with c_29_1 | c_29_1
          · replace h := h.2.1 c_29_1
            refine z_lsw (pc := 29) (t := 76) (off := 47) dX5_sortOf_29 (by decide) (by rw [c_29_1]; decide) (by decide) ?_
            refine z_bipush (pc := 76) (v := 6) dX5_sortOf_76 bi_6 ?_
            exact k_iret (pc := 78) hX dX5_sortOf_78 rfl rfl h
          · rcases Classical.em (p1 = 47) with c_29_2 | c_29_2
            · replace h := h.2.2.1 c_29_2
              refine z_lsw (pc := 29) (t := 74) (off := 45) dX5_sortOf_29 (by decide) (by rw [c_29_2]; decide) (by decide) ?_
              refine z_iconst (pc := 74) (v := 4) dX5_sortOf_74 ic_4 ?_
              exact k_iret (pc := 75) hX dX5_sortOf_75 rfl rfl h
            · rcases Classical.em (p1 = 59) with c_29_3 | c_29_3
              · replace h := h.2.2.2.1 c_29_3
                refine z_lsw (pc := 29) (t := 72) (off := 43) dX5_sortOf_29 (by decide) (by rw [c_29_3]; decide) (by decide) ?_
                refine z_iconst (pc := 72) (v := 3) dX5_sortOf_72 ic_3 ?_
                exact k_iret (pc := 73) hX dX5_sortOf_73 rfl rfl h
              · replace h := h.2.2.2.2 c_29_0 c_29_1 c_29_2 c_29_3
                refine z_lsw (pc := 29) (t := 79) (off := 50) dX5_sortOf_29 (by decide) (by show Op.lookupswitch.offset [(10, 47), (32, 47), (47, 45), (59, 43)] _ _ = _; rw [lv_osw c_29_0 (by decide), lv_osw c_29_1 (by decide), lv_osw c_29_2 (by decide), lv_osw c_29_3 (by decide)]; rfl) (by decide) ?_
                refine z_iconst (pc := 79) (v := 5) dX5_sortOf_79 ic_5 ?_
                exact k_iret (pc := 80) hX dX5_sortOf_80 rfl rfl h
      · replace h := h.2 c_17
        refine z_iload_n (pc := 20) dX5_sortOf_20 rfl ?_
        refine z_bipush (pc := 21) (v := 57) dX5_sortOf_21 bi_57 ?_
        refine z_icmp_gt (pc := 23) (t := 28) dX5_sortOf_23 (by decide) (fun c_23 => ?_) (fun c_23 => ?_)
        · replace h := h.1 c_23
          refine z_iload_n (pc := 28) dX5_sortOf_28 rfl ?_
          rcases Classical.em (p1 = 10) with c_29_0 | c_29_0
          · replace h := h.1 c_29_0
            refine z_lsw (pc := 29) (t := 76) (off := 47) dX5_sortOf_29 (by decide) (by rw [c_29_0]; decide) (by decide) ?_
            refine z_bipush (pc := 76) (v := 6) dX5_sortOf_76 bi_6 ?_
            exact k_iret (pc := 78) hX dX5_sortOf_78 rfl rfl h
          · rcases Classical.em (p1 = 32) with c_29_1 | c_29_1
            · replace h := h.2.1 c_29_1
              refine z_lsw (pc := 29) (t := 76) (off := 47) dX5_sortOf_29 (by decide) (by rw [c_29_1]; decide) (by decide) ?_
              refine z_bipush (pc := 76) (v := 6) dX5_sortOf_76 bi_6 ?_
              exact k_iret (pc := 78) hX dX5_sortOf_78 rfl rfl h
            · rcases Classical.em (p1 = 47) with c_29_2 | c_29_2
              · replace h := h.2.2.1 c_29_2
                refine z_lsw (pc := 29) (t := 74) (off := 45) dX5_sortOf_29 (by decide) (by rw [c_29_2]; decide) (by decide) ?_
                refine z_iconst (pc := 74) (v := 4) dX5_sortOf_74 ic_4 ?_
                exact k_iret (pc := 75) hX dX5_sortOf_75 rfl rfl h
              · rcases Classical.em (p1 = 59) with c_29_3 | c_29_3
                · replace h := h.2.2.2.1 c_29_3
                  refine z_lsw (pc := 29) (t := 72) (off := 43) dX5_sortOf_29 (by decide) (by rw [c_29_3]; decide) (by decide) ?_
                  refine z_iconst (pc := 72) (v := 3) dX5_sortOf_72 ic_3 ?_
                  exact k_iret (pc := 73) hX dX5_sortOf_73 rfl rfl h
                · replace h := h.2.2.2.2 c_29_0 c_29_1 c_29_2 c_29_3
                  refine z_lsw (pc := 29) (t := 79) (off := 50) dX5_sortOf_29 (by decide) (by show Op.lookupswitch.offset [(10, 47), (32, 47), (47, 45), (59, 43)] _ _ = _; rw [lv_osw c_29_0 (by decide), lv_osw c_29_1 (by decide), lv_osw c_29_2 (by decide), lv_osw c_29_3 (by decide)]; rfl) (by decide) ?_
                  refine z_iconst (pc := 79) (v := 5) dX5_sortOf_79 ic_5 ?_
                  exact k_iret (pc := 80) hX dX5_sortOf_80 rfl rfl h
        · replace h := h.2 c_23
          refine z_iconst (pc := 26) (v := 2) dX5_sortOf_26 ic_2 ?_
          exact k_iret (pc := 27) hX dX5_sortOf_27 rfl rfl h
    · replace h := h.2 c_9
      refine z_iconst (pc := 12) (v := 1) dX5_sortOf_12 ic_1 ?_
      exact k_iret (pc := 13) hX dX5_sortOf_13 rfl rfl h
set_option maxRecDepth 20000 in
theorem w_X6_areCells {f : zF} {K : Int32 → zF → Prop} {p1 : Int32} (h : ((p1 < 0 → K 0 f) ∧ (¬ p1 < 0 → ((511 < p1 → K 0 f) ∧ (¬ 511 < p1 → K 1 f))))) : ci mX6_areCells [.int p1] f K := by
  refine ci_of (by decide) (Nat.le_of_ble_eq_true rfl) (fun X hX => ?_)
  refine z_iload_n (pc := 0) dX6_areCells_0 rfl ?_
  refine z_if_lt (pc := 1) (t := 15) dX6_areCells_1 (by decide) (fun c_1 => ?_) (fun c_1 => ?_)
  · replace h := h.1 c_1
    refine z_iconst (pc := 15) (v := 0) dX6_areCells_15 ic_0 ?_
    exact k_iret (pc := 16) hX dX6_areCells_16 rfl rfl h
  · replace h := h.2 c_1
    refine z_iload_n (pc := 4) dX6_areCells_4 rfl ?_
    refine z_sipush (pc := 5) (v := 511) dX6_areCells_5 si_511 ?_
    refine z_icmp_gt (pc := 8) (t := 15) dX6_areCells_8 (by decide) (fun c_8 => ?_) (fun c_8 => ?_)
    · replace h := h.1 c_8
      refine z_iconst (pc := 15) (v := 0) dX6_areCells_15 ic_0 ?_
      exact k_iret (pc := 16) hX dX6_areCells_16 rfl rfl h
    · replace h := h.2 c_8
      refine z_iconst (pc := 11) (v := 1) dX6_areCells_11 ic_1 ?_
      refine z_goto (pc := 12) (t := 16) dX6_areCells_12 (by decide) ?_
      exact k_iret (pc := 16) hX dX6_areCells_16 rfl rfl h
set_option maxRecDepth 20000 in
theorem w_X6_fault {f : zF} {K : Int32 → zF → Prop}  (h : K (f 3 2) f) : ci mX6_fault [.ref 0] f K := by
  refine ci_of (by decide) (Nat.le_of_ble_eq_true rfl) (fun X hX => ?_)
  refine z_aload_n (pc := 0) dX6_fault_0 rfl ?_
  refine k_getr (pc := 1) (j := 2) zc6 dX6_fault_1 fl_X6_24 (by decide) rfl (by decide) rfl (k2 := 3) rfl ?_
  refine k_geti (pc := 4) (j := 2) zc3 dX6_fault_4 fl_X6_124 (by decide) rfl (by decide) rfl (v := (f 3 2)) rfl ?_
  exact k_iret (pc := 7) hX dX6_fault_7 rfl rfl h
set_option maxRecDepth 20000 in
theorem w_X6_found {f : zF} {K : Int32 → zF → Prop} {p1 : Int32} (h : K ((-1000010) - p1) (zup f 0 6 p1)) : ci mX6_found [.ref 0, .int p1] f K := by
  refine ci_of (by decide) (Nat.le_of_ble_eq_true rfl) (fun X hX => ?_)
  refine z_aload_n (pc := 0) dX6_found_0 rfl ?_
  refine z_iload_n (pc := 1) dX6_found_1 rfl ?_
  refine k_puti (pc := 2) (j := 6) zc6 dX6_found_2 fl_X6_251 (by decide) rfl rfl rfl (by decide) rfl ?_
  refine z_ldc (pc := 5) (v := -1000010) dX6_found_5 co_X6_254 ?_
  refine z_iload_n (pc := 7) dX6_found_7 rfl ?_
  refine z_isub (pc := 8) dX6_found_8 ?_
  exact k_iret (pc := 9) hX dX6_found_9 rfl rfl h
set_option maxRecDepth 20000 in
theorem w_X6_hasBit {f : zF} {K : Int32 → zF → Prop} {p1 : Int32} {p2 : Int32} (h : ((¬ ((p1 >>> (p2 &&& 31)) &&& 1) = 1 → K 0 f) ∧ (((p1 >>> (p2 &&& 31)) &&& 1) = 1 → K 1 f))) : ci mX6_hasBit [.int p1, .int p2] f K := by
  refine ci_of (by decide) (Nat.le_of_ble_eq_true rfl) (fun X hX => ?_)
  refine z_iload_n (pc := 0) dX6_hasBit_0 rfl ?_
  refine z_iload_n (pc := 1) dX6_hasBit_1 rfl ?_
  refine z_ishr (pc := 2) dX6_hasBit_2 ?_
  refine z_iconst (pc := 3) (v := 1) dX6_hasBit_3 ic_1 ?_
  refine z_iand (pc := 4) dX6_hasBit_4 ?_
  refine z_iconst (pc := 5) (v := 1) dX6_hasBit_5 ic_1 ?_
  refine z_icmp_ne (pc := 6) (t := 13) dX6_hasBit_6 (by decide) (fun c_6 => ?_) (fun c_6 => ?_)
  · replace h := h.1 c_6
    refine z_iconst (pc := 13) (v := 0) dX6_hasBit_13 ic_0 ?_
    exact k_iret (pc := 14) hX dX6_hasBit_14 rfl rfl h
  · replace h := h.2 c_6
    refine z_iconst (pc := 9) (v := 1) dX6_hasBit_9 ic_1 ?_
    refine z_goto (pc := 10) (t := 14) dX6_hasBit_10 (by decide) ?_
    exact k_iret (pc := 14) hX dX6_hasBit_14 rfl rfl h
set_option maxRecDepth 20000 in
theorem w_X6_imageOf {f : zF} {K : Option Nat → zF → Prop} {p1 : Int32} (h : ((p1 < 0 → K none f) ∧ (¬ p1 < 0 → ((2 ≤ p1 → K none f) ∧ (¬ 2 ≤ p1 → (vp_in p1 2 ∧ K (some (40 + 6 * (Int32.toNatClampNeg p1))) f)))))) : cq mX6_imageOf [.ref 0, .int p1] f K := by
  refine cq_of (by decide) (Nat.le_of_ble_eq_true rfl) (fun X hX => ?_)
  refine z_iload_n (pc := 0) dX6_imageOf_0 rfl ?_
  refine z_if_lt (pc := 1) (t := 22) dX6_imageOf_1 (by decide) (fun c_1 => ?_) (fun c_1 => ?_)
  · replace h := h.1 c_1
    refine z_null (pc := 22) dX6_imageOf_22 ?_
    exact k_aretN (pc := 23) hX dX6_imageOf_23 rfl h
  · replace h := h.2 c_1
    refine z_iload_n (pc := 4) dX6_imageOf_4 rfl ?_
    refine z_aload_n (pc := 5) dX6_imageOf_5 rfl ?_
    refine k_getr (pc := 6) (j := 1) zc6 dX6_imageOf_6 fl_X6_17 (by decide) rfl (by decide) rfl (k2 := 2) rfl ?_
    refine k_alen (pc := 9) dX6_imageOf_9 (by decide) rfl (by decide) rfl ?_
    refine z_icmp_ge (pc := 10) (t := 22) dX6_imageOf_10 (by decide) (fun c_10 => ?_) (fun c_10 => ?_)
    · replace h := h.1 c_10
      refine z_null (pc := 22) dX6_imageOf_22 ?_
      exact k_aretN (pc := 23) hX dX6_imageOf_23 rfl h
    · replace h := h.2 c_10
      refine z_aload_n (pc := 13) dX6_imageOf_13 rfl ?_
      refine k_getr (pc := 14) (j := 1) zc6 dX6_imageOf_14 fl_X6_17 (by decide) rfl (by decide) rfl (k2 := 2) rfl ?_
      refine z_iload_n (pc := 17) dX6_imageOf_17 rfl ?_
      refine k_aald (pc := 18) (cq := 0) dX6_imageOf_18 (by decide) rfl (by decide) h.1 (imgs_rf h.1) ?_
      replace h := h.2
      refine z_goto (pc := 19) (t := 23) dX6_imageOf_19 (by decide) ?_
      exact k_aret (pc := 23) hX dX6_imageOf_23 rfl h
set_option maxRecDepth 20000 in
theorem w_X6_isOfKind {f : zF} {K : Int32 → zF → Prop} {p1 : Int32} {p2 : Int32} (h : (∀ z1 : Int32, z1 = (if p1 = 1 then 1 else (if p1 = 2 then 1 else (if p1 = 3 then 1 else 0))) → (∀ z2 : Int32, z2 = (if p1 = 4 then 1 else (if p1 = 5 then 1 else 0)) → ((p2 = 0 → K 1 f) ∧ (¬ p2 = 0 → ((p2 = p1 → K 1 f) ∧ (¬ p2 = p1 → ((¬ p2 = 1 → ((¬ p2 = 4 → K 0 f) ∧ (p2 = 4 → ((z2 = 0 → K 0 f) ∧ (¬ z2 = 0 → K 1 f))))) ∧ (p2 = 1 → ((¬ z1 = 0 → K 1 f) ∧ (z1 = 0 → ((¬ p2 = 4 → K 0 f) ∧ (p2 = 4 → ((z2 = 0 → K 0 f) ∧ (¬ z2 = 0 → K 1 f))))))))))))))) : ci mX6_isOfKind [.int p1, .int p2] f K := by
  refine ci_of (by decide) (Nat.le_of_ble_eq_true rfl) (fun X hX => ?_)
  refine z_iload_n (pc := 0) dX6_isOfKind_0 rfl ?_
  refine z_iconst (pc := 1) (v := 1) dX6_isOfKind_1 ic_1 ?_
  suffices hm4 : Z X mX6_isOfKind 20 [(0, .int p1), (1, .int p2)] [.int (if p1 = 1 then 1 else (if p1 = 2 then 1 else (if p1 = 3 then 1 else 0)))] (zC f) by
    refine z_icmp_eq (pc := 2) (t := 15) dX6_isOfKind_2 (by decide) (fun c_2 => ?_) (fun c_2 => ?_)
    · rw [if_pos c_2] at hm4
      refine z_iconst (pc := 15) (v := 1) dX6_isOfKind_15 ic_1 ?_
      refine z_goto (pc := 16) (t := 20) dX6_isOfKind_16 (by decide) ?_
      exact hm4
    · rw [if_neg c_2] at hm4
      refine z_iload_n (pc := 5) dX6_isOfKind_5 rfl ?_
      refine z_iconst (pc := 6) (v := 2) dX6_isOfKind_6 ic_2 ?_
      refine z_icmp_eq (pc := 7) (t := 15) dX6_isOfKind_7 (by decide) (fun c_7 => ?_) (fun c_7 => ?_)
      · rw [if_pos c_7] at hm4
        refine z_iconst (pc := 15) (v := 1) dX6_isOfKind_15 ic_1 ?_
        refine z_goto (pc := 16) (t := 20) dX6_isOfKind_16 (by decide) ?_
        exact hm4
      · rw [if_neg c_7] at hm4
        refine z_iload_n (pc := 10) dX6_isOfKind_10 rfl ?_
        refine z_iconst (pc := 11) (v := 3) dX6_isOfKind_11 ic_3 ?_
        refine z_icmp_ne (pc := 12) (t := 19) dX6_isOfKind_12 (by decide) (fun c_12 => ?_) (fun c_12 => ?_)
        · rw [if_neg c_12] at hm4
          refine z_iconst (pc := 19) (v := 0) dX6_isOfKind_19 ic_0 ?_
          exact hm4
        · rw [if_pos c_12] at hm4
          refine z_iconst (pc := 15) (v := 1) dX6_isOfKind_15 ic_1 ?_
          refine z_goto (pc := 16) (t := 20) dX6_isOfKind_16 (by decide) ?_
          exact hm4
  refine z_name (fun z1 e_z1 => ?_)
  replace h := h z1 e_z1
  refine z_istore_n (pc := 20) (lv' := [(2, .int z1), (0, .int p1), (1, .int p2)]) dX6_isOfKind_20 (Nat.le_of_ble_eq_true rfl) rfl ?_
  refine z_iload_n (pc := 21) dX6_isOfKind_21 rfl ?_
  refine z_iconst (pc := 22) (v := 4) dX6_isOfKind_22 ic_4 ?_
  suffices hm3 : Z X mX6_isOfKind 36 [(2, .int z1), (0, .int p1), (1, .int p2)] [.int (if p1 = 4 then 1 else (if p1 = 5 then 1 else 0))] (zC f) by
    refine z_icmp_eq (pc := 23) (t := 31) dX6_isOfKind_23 (by decide) (fun c_23 => ?_) (fun c_23 => ?_)
    · rw [if_pos c_23] at hm3
      refine z_iconst (pc := 31) (v := 1) dX6_isOfKind_31 ic_1 ?_
      refine z_goto (pc := 32) (t := 36) dX6_isOfKind_32 (by decide) ?_
      exact hm3
    · rw [if_neg c_23] at hm3
      refine z_iload_n (pc := 26) dX6_isOfKind_26 rfl ?_
      refine z_iconst (pc := 27) (v := 5) dX6_isOfKind_27 ic_5 ?_
      refine z_icmp_ne (pc := 28) (t := 35) dX6_isOfKind_28 (by decide) (fun c_28 => ?_) (fun c_28 => ?_)
      · rw [if_neg c_28] at hm3
        refine z_iconst (pc := 35) (v := 0) dX6_isOfKind_35 ic_0 ?_
        exact hm3
      · rw [if_pos c_28] at hm3
        refine z_iconst (pc := 31) (v := 1) dX6_isOfKind_31 ic_1 ?_
        refine z_goto (pc := 32) (t := 36) dX6_isOfKind_32 (by decide) ?_
        exact hm3
  refine z_name (fun z2 e_z2 => ?_)
  replace h := h z2 e_z2
  refine z_istore_n (pc := 36) (lv' := [(3, .int z2), (2, .int z1), (0, .int p1), (1, .int p2)]) dX6_isOfKind_36 (Nat.le_of_ble_eq_true rfl) rfl ?_
  refine z_iload_n (pc := 37) dX6_isOfKind_37 rfl ?_
  refine z_if_eq (pc := 38) (t := 64) dX6_isOfKind_38 (by decide) (fun c_38 => ?_) (fun c_38 => ?_)
  · replace h := h.1 c_38
    refine z_iconst (pc := 64) (v := 1) dX6_isOfKind_64 ic_1 ?_
    refine z_goto (pc := 65) (t := 69) dX6_isOfKind_65 (by decide) ?_
    exact k_iret (pc := 69) hX dX6_isOfKind_69 rfl rfl h
  · replace h := h.2 c_38
    refine z_iload_n (pc := 41) dX6_isOfKind_41 rfl ?_
    refine z_iload_n (pc := 42) dX6_isOfKind_42 rfl ?_
    refine z_icmp_eq (pc := 43) (t := 64) dX6_isOfKind_43 (by decide) (fun c_43 => ?_) (fun c_43 => ?_)
    · replace h := h.1 c_43
      refine z_iconst (pc := 64) (v := 1) dX6_isOfKind_64 ic_1 ?_
      refine z_goto (pc := 65) (t := 69) dX6_isOfKind_65 (by decide) ?_
      exact k_iret (pc := 69) hX dX6_isOfKind_69 rfl rfl h
    · replace h := h.2 c_43
      refine z_iload_n (pc := 46) dX6_isOfKind_46 rfl ?_
      refine z_iconst (pc := 47) (v := 1) dX6_isOfKind_47 ic_1 ?_
      refine z_icmp_ne (pc := 48) (t := 55) dX6_isOfKind_48 (by decide) (fun c_48 => ?_) (fun c_48 => ?_)
      · replace h := h.1 c_48
        refine z_iload_n (pc := 55) dX6_isOfKind_55 rfl ?_
        refine z_iconst (pc := 56) (v := 4) dX6_isOfKind_56 ic_4 ?_
        refine z_icmp_ne (pc := 57) (t := 68) dX6_isOfKind_57 (by decide) (fun c_57 => ?_) (fun c_57 => ?_)
        · replace h := h.1 c_57
          refine z_iconst (pc := 68) (v := 0) dX6_isOfKind_68 ic_0 ?_
          exact k_iret (pc := 69) hX dX6_isOfKind_69 rfl rfl h
        · replace h := h.2 c_57
          refine z_iload_n (pc := 60) dX6_isOfKind_60 rfl ?_
          refine z_if_eq (pc := 61) (t := 68) dX6_isOfKind_61 (by decide) (fun c_61 => ?_) (fun c_61 => ?_)
          · replace h := h.1 c_61
            refine z_iconst (pc := 68) (v := 0) dX6_isOfKind_68 ic_0 ?_
            exact k_iret (pc := 69) hX dX6_isOfKind_69 rfl rfl h
          · replace h := h.2 c_61
            refine z_iconst (pc := 64) (v := 1) dX6_isOfKind_64 ic_1 ?_
            refine z_goto (pc := 65) (t := 69) dX6_isOfKind_65 (by decide) ?_
            exact k_iret (pc := 69) hX dX6_isOfKind_69 rfl rfl h
      · replace h := h.2 c_48
        refine z_iload_n (pc := 51) dX6_isOfKind_51 rfl ?_
        refine z_if_ne (pc := 52) (t := 64) dX6_isOfKind_52 (by decide) (fun c_52 => ?_) (fun c_52 => ?_)
        · replace h := h.1 c_52
          refine z_iconst (pc := 64) (v := 1) dX6_isOfKind_64 ic_1 ?_
          refine z_goto (pc := 65) (t := 69) dX6_isOfKind_65 (by decide) ?_
          exact k_iret (pc := 69) hX dX6_isOfKind_69 rfl rfl h
        · replace h := h.2 c_52
          refine z_iload_n (pc := 55) dX6_isOfKind_55 rfl ?_
          refine z_iconst (pc := 56) (v := 4) dX6_isOfKind_56 ic_4 ?_
          refine z_icmp_ne (pc := 57) (t := 68) dX6_isOfKind_57 (by decide) (fun c_57 => ?_) (fun c_57 => ?_)
          · replace h := h.1 c_57
            refine z_iconst (pc := 68) (v := 0) dX6_isOfKind_68 ic_0 ?_
            exact k_iret (pc := 69) hX dX6_isOfKind_69 rfl rfl h
          · replace h := h.2 c_57
            refine z_iload_n (pc := 60) dX6_isOfKind_60 rfl ?_
            refine z_if_eq (pc := 61) (t := 68) dX6_isOfKind_61 (by decide) (fun c_61 => ?_) (fun c_61 => ?_)
            · replace h := h.1 c_61
              refine z_iconst (pc := 68) (v := 0) dX6_isOfKind_68 ic_0 ?_
              exact k_iret (pc := 69) hX dX6_isOfKind_69 rfl rfl h
            · replace h := h.2 c_61
              refine z_iconst (pc := 64) (v := 1) dX6_isOfKind_64 ic_1 ?_
              refine z_goto (pc := 65) (t := 69) dX6_isOfKind_65 (by decide) ?_
              exact k_iret (pc := 69) hX dX6_isOfKind_69 rfl rfl h
set_option maxRecDepth 20000 in
theorem w_X6_itemOf {f : zF} {K : Int32 → zF → Prop} {q0 n0 : Nat} {p2 : Int32} (hq0 : q0 < 63) (hs0 : zSH q0 = (8, n0)) (h : ((p2 < 0 → K 0 f) ∧ (¬ p2 < 0 → (((nI n0) ≤ p2 → K 0 f) ∧ (¬ (nI n0) ≤ p2 → (vp_in p2 n0 ∧ K (f q0 (Int32.toNatClampNeg p2)) f)))))) : ci mX6_itemOf [.ref q0, .int p2] f K := by
  refine ci_of (by decide) (Nat.le_of_ble_eq_true rfl) (fun X hX => ?_)
  refine z_aload_n (pc := 0) dX6_itemOf_0 rfl ?_
  refine z_ifnull (pc := 1) dX6_itemOf_1 ?_
  refine z_iload_n (pc := 4) dX6_itemOf_4 rfl ?_
  refine z_if_lt (pc := 5) (t := 20) dX6_itemOf_5 (by decide) (fun c_5 => ?_) (fun c_5 => ?_)
  · replace h := h.1 c_5
    refine z_iconst (pc := 20) (v := 0) dX6_itemOf_20 ic_0 ?_
    exact k_iret (pc := 21) hX dX6_itemOf_21 rfl rfl h
  · replace h := h.2 c_5
    refine z_iload_n (pc := 8) dX6_itemOf_8 rfl ?_
    refine z_aload_n (pc := 9) dX6_itemOf_9 rfl ?_
    refine k_alen (pc := 10) dX6_itemOf_10 hq0 hs0 (by decide) rfl ?_
    refine z_icmp_ge (pc := 11) (t := 20) dX6_itemOf_11 (by decide) (fun c_11 => ?_) (fun c_11 => ?_)
    · replace h := h.1 c_11
      refine z_iconst (pc := 20) (v := 0) dX6_itemOf_20 ic_0 ?_
      exact k_iret (pc := 21) hX dX6_itemOf_21 rfl rfl h
    · replace h := h.2 c_11
      refine z_aload_n (pc := 14) dX6_itemOf_14 rfl ?_
      refine z_iload_n (pc := 15) dX6_itemOf_15 rfl ?_
      refine k_iald (pc := 16) (j := (Int32.toNatClampNeg p2)) (v := (f q0 (Int32.toNatClampNeg p2))) dX6_itemOf_16 hq0 hs0 h.1 rfl rfl ?_
      replace h := h.2
      refine z_goto (pc := 17) (t := 21) dX6_itemOf_17 (by decide) ?_
      exact k_iret (pc := 21) hX dX6_itemOf_21 rfl rfl h
set_option maxRecDepth 20000 in
theorem w_X6_putItem {f : zF} {K : zF → Prop} {q0 n0 : Nat} {p2 : Int32} {p3 : Int32} (hq0 : q0 < 63) (hs0 : zSH q0 = (8, n0)) (h : ((p2 < 0 → K f) ∧ (¬ p2 < 0 → (((nI n0) ≤ p2 → K f) ∧ (¬ (nI n0) ≤ p2 → (vp_in p2 n0 ∧ K (zup f q0 (Int32.toNatClampNeg p2) p3))))))) : cv mX6_putItem [.ref q0, .int p2, .int p3] f K := by
  refine cv_of (by decide) (Nat.le_of_ble_eq_true rfl) (fun X hX => ?_)
  refine z_aload_n (pc := 0) dX6_putItem_0 rfl ?_
  refine z_ifnull (pc := 1) dX6_putItem_1 ?_
  refine z_iload_n (pc := 4) dX6_putItem_4 rfl ?_
  refine z_if_lt (pc := 5) (t := 18) dX6_putItem_5 (by decide) (fun c_5 => ?_) (fun c_5 => ?_)
  · replace h := h.1 c_5
    exact k_vret (pc := 18) hX dX6_putItem_18 rfl h
  · replace h := h.2 c_5
    refine z_iload_n (pc := 8) dX6_putItem_8 rfl ?_
    refine z_aload_n (pc := 9) dX6_putItem_9 rfl ?_
    refine k_alen (pc := 10) dX6_putItem_10 hq0 hs0 (by decide) rfl ?_
    refine z_icmp_ge (pc := 11) (t := 18) dX6_putItem_11 (by decide) (fun c_11 => ?_) (fun c_11 => ?_)
    · replace h := h.1 c_11
      exact k_vret (pc := 18) hX dX6_putItem_18 rfl h
    · replace h := h.2 c_11
      refine z_aload_n (pc := 14) dX6_putItem_14 rfl ?_
      refine z_iload_n (pc := 15) dX6_putItem_15 rfl ?_
      refine z_iload_n (pc := 16) dX6_putItem_16 rfl ?_
      refine k_iast (pc := 17) (j := (Int32.toNatClampNeg p2)) dX6_putItem_17 hq0 hs0 h.1 rfl ?_
      replace h := h.2
      exact k_vret (pc := 18) hX dX6_putItem_18 rfl h
set_option maxRecDepth 20000 in
theorem w_X6_rowOf {f : zF} {K : Option Nat → zF → Prop} {p1 : Int32} (h : ((p1 < 0 → K none f) ∧ (¬ p1 < 0 → ((8 ≤ p1 → K none f) ∧ (¬ 8 ≤ p1 → (vp_in p1 8 ∧ K (some (24 + 2 * (Int32.toNatClampNeg p1))) f)))))) : cq mX6_rowOf [.ref 0, .int p1] f K := by
  refine cq_of (by decide) (Nat.le_of_ble_eq_true rfl) (fun X hX => ?_)
  refine z_iload_n (pc := 0) dX6_rowOf_0 rfl ?_
  refine z_if_lt (pc := 1) (t := 22) dX6_rowOf_1 (by decide) (fun c_1 => ?_) (fun c_1 => ?_)
  · replace h := h.1 c_1
    refine z_null (pc := 22) dX6_rowOf_22 ?_
    exact k_aretN (pc := 23) hX dX6_rowOf_23 rfl h
  · replace h := h.2 c_1
    refine z_iload_n (pc := 4) dX6_rowOf_4 rfl ?_
    refine z_aload_n (pc := 5) dX6_rowOf_5 rfl ?_
    refine k_getr (pc := 6) (j := 0) zc6 dX6_rowOf_6 fl_X6_11 (by decide) rfl (by decide) rfl (k2 := 1) rfl ?_
    refine k_alen (pc := 9) dX6_rowOf_9 (by decide) rfl (by decide) rfl ?_
    refine z_icmp_ge (pc := 10) (t := 22) dX6_rowOf_10 (by decide) (fun c_10 => ?_) (fun c_10 => ?_)
    · replace h := h.1 c_10
      refine z_null (pc := 22) dX6_rowOf_22 ?_
      exact k_aretN (pc := 23) hX dX6_rowOf_23 rfl h
    · replace h := h.2 c_10
      refine z_aload_n (pc := 13) dX6_rowOf_13 rfl ?_
      refine k_getr (pc := 14) (j := 0) zc6 dX6_rowOf_14 fl_X6_11 (by decide) rfl (by decide) rfl (k2 := 1) rfl ?_
      refine z_iload_n (pc := 17) dX6_rowOf_17 rfl ?_
      refine k_aald (pc := 18) (cq := 1) dX6_rowOf_18 (by decide) rfl (by decide) h.1 (rows_rf h.1) ?_
      replace h := h.2
      refine z_goto (pc := 19) (t := 23) dX6_rowOf_19 (by decide) ?_
      exact k_aret (pc := 23) hX dX6_rowOf_23 rfl h
set_option maxRecDepth 20000 in
theorem w_X6_status {f : zF} {K : Int32 → zF → Prop}  (h : K (f 0 6) f) : ci mX6_status [.ref 0] f K := by
  refine ci_of (by decide) (Nat.le_of_ble_eq_true rfl) (fun X hX => ?_)
  refine z_aload_n (pc := 0) dX6_status_0 rfl ?_
  refine k_geti (pc := 1) (j := 6) zc6 dX6_status_1 fl_X6_251 (by decide) rfl (by decide) rfl (v := (f 0 6)) rfl ?_
  exact k_iret (pc := 4) hX dX6_status_4 rfl rfl h
set_option maxRecDepth 20000 in
theorem w_X6_turned {f : zF} {K : Int32 → zF → Prop} {p1 : Int32} (h : (∀ z1 : Int32, z1 = (((p1 &&& 73) <<< (2 &&& 31)) ||| (p1 &&& 146)) → K (z1 ||| ((p1 &&& 292) >>> (2 &&& 31))) f)) : ci mX6_turned [.int p1] f K := by
  refine ci_of (by decide) (Nat.le_of_ble_eq_true rfl) (fun X hX => ?_)
  refine z_iload_n (pc := 0) dX6_turned_0 rfl ?_
  refine z_bipush (pc := 1) (v := 73) dX6_turned_1 bi_73 ?_
  refine z_iand (pc := 3) dX6_turned_3 ?_
  refine z_iconst (pc := 4) (v := 2) dX6_turned_4 ic_2 ?_
  refine z_ishl (pc := 5) dX6_turned_5 ?_
  refine z_iload_n (pc := 6) dX6_turned_6 rfl ?_
  refine z_sipush (pc := 7) (v := 146) dX6_turned_7 si_146 ?_
  refine z_iand (pc := 10) dX6_turned_10 ?_
  refine z_ior (pc := 11) dX6_turned_11 ?_
  refine z_name (fun z1 e_z1 => ?_)
  replace h := h z1 e_z1
  refine z_iload_n (pc := 12) dX6_turned_12 rfl ?_
  refine z_sipush (pc := 13) (v := 292) dX6_turned_13 si_292 ?_
  refine z_iand (pc := 16) dX6_turned_16 ?_
  refine z_iconst (pc := 17) (v := 2) dX6_turned_17 ic_2 ?_
  refine z_ishr (pc := 18) dX6_turned_18 ?_
  refine z_ior (pc := 19) dX6_turned_19 ?_
  exact k_iret (pc := 20) hX dX6_turned_20 rfl rfl h
set_option maxRecDepth 20000 in
theorem w_X6_unfound {f : zF} {K : Int32 → zF → Prop} {p1 : Int32} (h : K p1 (zup f 0 6 0)) : ci mX6_unfound [.ref 0, .int p1] f K := by
  refine ci_of (by decide) (Nat.le_of_ble_eq_true rfl) (fun X hX => ?_)
  refine z_aload_n (pc := 0) dX6_unfound_0 rfl ?_
  refine z_iconst (pc := 1) (v := 0) dX6_unfound_1 ic_0 ?_
  refine k_puti (pc := 2) (j := 6) zc6 dX6_unfound_2 fl_X6_251 (by decide) rfl rfl rfl (by decide) rfl ?_
  refine z_iload_n (pc := 5) dX6_unfound_5 rfl ?_
  exact k_iret (pc := 6) hX dX6_unfound_6 rfl rfl h
set_option maxRecDepth 20000 in
theorem w_X7_bad {f : zF} {K : zF → Prop} {p1 : Int32} (h : ((¬ (f 52 17) = 0 → K f) ∧ ((f 52 17) = 0 → K (zup (zup f 52 17 p1) 52 18 (f 52 15))))) : cv mX7_bad [.ref 52, .int p1] f K := by
  refine cv_of (by decide) (Nat.le_of_ble_eq_true rfl) (fun X hX => ?_)
  refine z_aload_n (pc := 0) dX7_bad_0 rfl ?_
  refine k_geti (pc := 1) (j := 17) zc7 dX7_bad_1 fl_X7_99 (by decide) rfl (by decide) rfl (v := (f 52 17)) rfl ?_
  refine z_if_ne (pc := 4) (t := 20) dX7_bad_4 (by decide) (fun c_4 => ?_) (fun c_4 => ?_)
  · replace h := h.1 c_4
    exact k_vret (pc := 20) hX dX7_bad_20 rfl h
  · replace h := h.2 c_4
    refine z_aload_n (pc := 7) dX7_bad_7 rfl ?_
    refine z_iload_n (pc := 8) dX7_bad_8 rfl ?_
    refine k_puti (pc := 9) (j := 17) zc7 dX7_bad_9 fl_X7_99 (by decide) rfl rfl rfl (by decide) rfl ?_
    refine z_aload_n (pc := 12) dX7_bad_12 rfl ?_
    refine z_aload_n (pc := 13) dX7_bad_13 rfl ?_
    refine k_geti (pc := 14) (j := 15) zc7 dX7_bad_14 fl_X7_84 (by decide) rfl (by decide) rfl (v := (f 52 15)) rfl ?_
    refine k_puti (pc := 17) (j := 18) zc7 dX7_bad_17 fl_X7_105 (by decide) rfl rfl rfl (by decide) rfl ?_
    exact k_vret (pc := 20) hX dX7_bad_20 rfl h
set_option maxRecDepth 20000 in
theorem w_X7_began {f : zF} {K : zF → Prop} {p1 : Int32} (h : ((16 ≤ (f 52 24) → K f) ∧ (¬ 16 ≤ (f 52 24) → (vp_in (f 52 24) 16 ∧ K (zup (zup f 62 (Int32.toNatClampNeg (f 52 24)) p1) 52 24 ((f 52 24) + 1)))))) : cv mX7_began [.ref 52, .int p1] f K := by
  refine cv_of (by decide) (Nat.le_of_ble_eq_true rfl) (fun X hX => ?_)
  refine z_aload_n (pc := 0) dX7_began_0 rfl ?_
  refine k_geti (pc := 1) (j := 24) zc7 dX7_began_1 fl_X7_248 (by decide) rfl (by decide) rfl (v := (f 52 24)) rfl ?_
  refine z_bipush (pc := 4) (v := 16) dX7_began_4 bi_16 ?_
  refine z_icmp_ge (pc := 6) (t := 29) dX7_began_6 (by decide) (fun c_6 => ?_) (fun c_6 => ?_)
  · replace h := h.1 c_6
    exact k_vret (pc := 29) hX dX7_began_29 rfl h
  · replace h := h.2 c_6
    refine z_aload_n (pc := 9) dX7_began_9 rfl ?_
    refine k_getr (pc := 10) (j := 23) zc7 dX7_began_10 fl_X7_38 (by decide) rfl (by decide) rfl (k2 := 62) rfl ?_
    refine z_aload_n (pc := 13) dX7_began_13 rfl ?_
    refine k_geti (pc := 14) (j := 24) zc7 dX7_began_14 fl_X7_248 (by decide) rfl (by decide) rfl (v := (f 52 24)) rfl ?_
    refine z_iload_n (pc := 17) dX7_began_17 rfl ?_
    refine k_iast (pc := 18) (j := (Int32.toNatClampNeg (f 52 24))) dX7_began_18 (by decide) rfl h.1 rfl ?_
    replace h := h.2
    refine z_aload_n (pc := 19) dX7_began_19 rfl ?_
    refine z_dup (pc := 20) dX7_began_20 rfl ?_
    refine k_geti (pc := 21) (j := 24) zc7 dX7_began_21 fl_X7_248 (by decide) rfl (by decide) rfl (v := (f 52 24)) rfl ?_
    refine z_iconst (pc := 24) (v := 1) dX7_began_24 ic_1 ?_
    refine z_iadd (pc := 25) dX7_began_25 ?_
    refine k_puti (pc := 26) (j := 24) zc7 dX7_began_26 fl_X7_248 (by decide) rfl rfl rfl (by decide) rfl ?_
    exact k_vret (pc := 29) hX dX7_began_29 rfl h
set_option maxRecDepth 20000 in
theorem w_X7_bits {f : zF} {K : Int32 → zF → Prop} {p1 : Int32} (h : ∀ X, kR X (zRi K) → Z X mX7_bits 4 [(0, .int p1), (1, .int 0), (2, .int 0)] [] (zC f)) : ci mX7_bits [.int p1] f K := by
  refine ci_of (by decide) (Nat.le_of_ble_eq_true rfl) (fun X hX => ?_)
  replace h := h X hX
  refine z_iconst (pc := 0) (v := 0) dX7_bits_0 ic_0 ?_
  refine z_istore_n (pc := 1) (lv' := [(1, .int 0), (0, .int p1)]) dX7_bits_1 (Nat.le_of_ble_eq_true rfl) rfl ?_
  refine z_iconst (pc := 2) (v := 0) dX7_bits_2 ic_0 ?_
  refine z_istore_n (pc := 3) (lv' := [(2, .int 0), (1, .int 0), (0, .int p1)]) dX7_bits_3 (Nat.le_of_ble_eq_true rfl) rfl ?_
  exact z_sub [2, 1, 0] rfl h
set_option maxRecDepth 20000 in
theorem l_X7_bits_4 {X : zX} {f : zF} {K : Int32 → zF → Prop}  {x0 x1 x2 : Int32}  (hX : kR X (zRi K)) (h : ((9 ≤ x2 → K x1 f) ∧ (¬ 9 ≤ x2 → Z X mX7_bits 4 [(0, .int x0), (1, .int (x1 + ((x0 >>> (x2 &&& 31)) &&& 1))), (2, .int (x2 + 1))] [] (zC f)))) : Z X mX7_bits 4 [(0, .int x0), (1, .int x1), (2, .int x2)] [] (zC f) := by
  refine z_iload_n (pc := 4) dX7_bits_4 rfl ?_
  refine z_bipush (pc := 5) (v := 9) dX7_bits_5 bi_9 ?_
  refine z_icmp_ge (pc := 7) (t := 24) dX7_bits_7 (by decide) (fun c_7 => ?_) (fun c_7 => ?_)
  · replace h := h.1 c_7
    refine z_iload_n (pc := 24) dX7_bits_24 rfl ?_
    exact k_iret (pc := 25) hX dX7_bits_25 rfl rfl h
  · replace h := h.2 c_7
    refine z_iload_n (pc := 10) dX7_bits_10 rfl ?_
    refine z_iload_n (pc := 11) dX7_bits_11 rfl ?_
    refine z_iload_n (pc := 12) dX7_bits_12 rfl ?_
    refine z_ishr (pc := 13) dX7_bits_13 ?_
    refine z_iconst (pc := 14) (v := 1) dX7_bits_14 ic_1 ?_
    refine z_iand (pc := 15) dX7_bits_15 ?_
    refine z_iadd (pc := 16) dX7_bits_16 ?_
    refine z_istore_n (pc := 17) (lv' := [(1, .int (x1 + ((x0 >>> (x2 &&& 31)) &&& 1))), (0, .int x0), (2, .int x2)]) dX7_bits_17 (Nat.le_of_ble_eq_true rfl) rfl ?_
    refine z_iinc (pc := 18) (v := (x2 + 1)) (lv' := [(2, .int (x2 + 1)), (1, .int (x1 + ((x0 >>> (x2 &&& 31)) &&& 1))), (0, .int x0)]) dX7_bits_18 rfl (congrArg (fun z => x2 + z) ic_1) (Nat.le_of_ble_eq_true rfl) rfl ?_
    refine z_goto (pc := 21) (t := 4) dX7_bits_21 (by decide) ?_
    exact z_sub [2, 1, 0] rfl h
set_option maxRecDepth 20000 in
theorem w_X7_byteAt {f : zF} {K : Int32 → zF → Prop} {p1 : Int32} (h : (((f 52 12) ≤ p1 → K (-1000000) f) ∧ (¬ (f 52 12) ≤ p1 → (vp_in p1 400 ∧ K (f 59 (Int32.toNatClampNeg p1)) f)))) : ci mX7_byteAt [.ref 52, .int p1] f K := by
  refine ci_of (by decide) (Nat.le_of_ble_eq_true rfl) (fun X hX => ?_)
  refine z_iload_n (pc := 0) dX7_byteAt_0 rfl ?_
  refine z_aload_n (pc := 1) dX7_byteAt_1 rfl ?_
  refine k_geti (pc := 2) (j := 12) zc7 dX7_byteAt_2 fl_X7_74 (by decide) rfl (by decide) rfl (v := (f 52 12)) rfl ?_
  refine z_icmp_ge (pc := 5) (t := 17) dX7_byteAt_5 (by decide) (fun c_5 => ?_) (fun c_5 => ?_)
  · replace h := h.1 c_5
    refine z_ldc (pc := 17) (v := -1000000) dX7_byteAt_17 co_X7_77 ?_
    exact k_iret (pc := 19) hX dX7_byteAt_19 rfl rfl h
  · replace h := h.2 c_5
    refine z_aload_n (pc := 8) dX7_byteAt_8 rfl ?_
    refine k_getr (pc := 9) (j := 9) zc7 dX7_byteAt_9 fl_X7_28 (by decide) rfl (by decide) rfl (k2 := 59) rfl ?_
    refine z_iload_n (pc := 12) dX7_byteAt_12 rfl ?_
    refine k_iald (pc := 13) (j := (Int32.toNatClampNeg p1)) (v := (f 59 (Int32.toNatClampNeg p1))) dX7_byteAt_13 (by decide) rfl h.1 rfl rfl ?_
    replace h := h.2
    refine z_goto (pc := 14) (t := 19) dX7_byteAt_14 (by decide) ?_
    exact k_iret (pc := 19) hX dX7_byteAt_19 rfl rfl h
set_option maxRecDepth 20000 in
theorem w_X7_cellsOf {f : zF} {K : Int32 → zF → Prop} {p1 : Int32} (h : (vp_in ((3 + (2 * p1)) + 1) 37 ∧ K (f 56 (Int32.toNatClampNeg ((3 + (2 * p1)) + 1))) f)) : ci mX7_cellsOf [.ref 52, .int p1] f K := by
  refine ci_of (by decide) (Nat.le_of_ble_eq_true rfl) (fun X hX => ?_)
  refine z_aload_n (pc := 0) dX7_cellsOf_0 rfl ?_
  refine k_getr (pc := 1) (j := 5) zc7 dX7_cellsOf_1 fl_X7_19 (by decide) rfl (by decide) rfl (k2 := 56) rfl ?_
  refine z_iconst (pc := 4) (v := 3) dX7_cellsOf_4 ic_3 ?_
  refine z_iconst (pc := 5) (v := 2) dX7_cellsOf_5 ic_2 ?_
  refine z_iload_n (pc := 6) dX7_cellsOf_6 rfl ?_
  refine z_imul (pc := 7) dX7_cellsOf_7 ?_
  refine z_iadd (pc := 8) dX7_cellsOf_8 ?_
  refine z_iconst (pc := 9) (v := 1) dX7_cellsOf_9 ic_1 ?_
  refine z_iadd (pc := 10) dX7_cellsOf_10 ?_
  refine k_iald (pc := 11) (j := (Int32.toNatClampNeg ((3 + (2 * p1)) + 1))) (v := (f 56 (Int32.toNatClampNeg ((3 + (2 * p1)) + 1)))) dX7_cellsOf_11 (by decide) rfl h.1 rfl rfl ?_
  replace h := h.2
  exact k_iret (pc := 12) hX dX7_cellsOf_12 rfl rfl h
set_option maxRecDepth 20000 in
theorem w_X7_fault {f : zF} {K : Int32 → zF → Prop}  (h : K (f 52 11) (zup f 52 0 0)) : ci mX7_fault [.ref 52] f K := by
  refine ci_of (by decide) (Nat.le_of_ble_eq_true rfl) (fun X hX => ?_)
  refine z_aload_n (pc := 0) dX7_fault_0 rfl ?_
  refine z_iconst (pc := 1) (v := 0) dX7_fault_1 ic_0 ?_
  refine k_puti (pc := 2) (j := 0) zc7 dX7_fault_2 fl_X7_41 (by decide) rfl rfl rfl (by decide) rfl ?_
  refine z_aload_n (pc := 5) dX7_fault_5 rfl ?_
  refine k_geti (pc := 6) (j := 11) zc7 dX7_fault_6 fl_X7_163 (by decide) rfl (by decide) rfl (v := (f 52 11)) rfl ?_
  exact k_iret (pc := 9) hX dX7_fault_9 rfl rfl h
set_option maxRecDepth 20000 in
theorem w_X7_figures {f : zF} {K : Int32 → zF → Prop}  (h : ∀ X, kR X (zRi K) → Z X mX7_figures 7 [(0, .ref 52), (1, .int 0), (2, .int (f 52 15))] [] (zC f)) : ci mX7_figures [.ref 52] f K := by
  refine ci_of (by decide) (Nat.le_of_ble_eq_true rfl) (fun X hX => ?_)
  replace h := h X hX
  refine z_iconst (pc := 0) (v := 0) dX7_figures_0 ic_0 ?_
  refine z_istore_n (pc := 1) (lv' := [(1, .int 0), (0, .ref 52)]) dX7_figures_1 (Nat.le_of_ble_eq_true rfl) rfl ?_
  refine z_aload_n (pc := 2) dX7_figures_2 rfl ?_
  refine k_geti (pc := 3) (j := 15) zc7 dX7_figures_3 fl_X7_84 (by decide) rfl (by decide) rfl (v := (f 52 15)) rfl ?_
  refine z_istore_n (pc := 6) (lv' := [(2, .int (f 52 15)), (1, .int 0), (0, .ref 52)]) dX7_figures_6 (Nat.le_of_ble_eq_true rfl) rfl ?_
  exact z_sub [2, 1, 0] rfl h
set_option maxRecDepth 20000 in
theorem l_X7_figures_7 {X : zX} {f : zF} {K : Int32 → zF → Prop}  {x1 x2 : Int32}  (hX : kR X (zRi K)) (h : (((f 52 16) ≤ x2 → K x1 f) ∧ (¬ (f 52 16) ≤ x2 → ((¬ (f 52 14) = 3 → K x1 f) ∧ ((f 52 14) = 3 → (vp_in x2 400 ∧ (∀ z101 : Int32, z101 = ((10 * x1) + (f 59 (Int32.toNatClampNeg x2))) → Z X mX7_figures 7 [(0, .ref 52), (1, .int (z101 - 48)), (2, .int (x2 + 1))] [] (zC f)))))))) : Z X mX7_figures 7 [(0, .ref 52), (1, .int x1), (2, .int x2)] [] (zC f) := by
  refine z_iload_n (pc := 7) dX7_figures_7 rfl ?_
  refine z_aload_n (pc := 8) dX7_figures_8 rfl ?_
  refine k_geti (pc := 9) (j := 16) zc7 dX7_figures_9 fl_X7_96 (by decide) rfl (by decide) rfl (v := (f 52 16)) rfl ?_
  refine z_icmp_ge (pc := 12) (t := 44) dX7_figures_12 (by decide) (fun c_12 => ?_) (fun c_12 => ?_)
  · replace h := h.1 c_12
    refine z_iload_n (pc := 44) dX7_figures_44 rfl ?_
    exact k_iret (pc := 45) hX dX7_figures_45 rfl rfl h
  · replace h := h.2 c_12
    refine z_aload_n (pc := 15) dX7_figures_15 rfl ?_
    refine k_geti (pc := 16) (j := 14) zc7 dX7_figures_16 fl_X7_87 (by decide) rfl (by decide) rfl (v := (f 52 14)) rfl ?_
    refine z_iconst (pc := 19) (v := 3) dX7_figures_19 ic_3 ?_
    refine z_icmp_ne (pc := 20) (t := 44) dX7_figures_20 (by decide) (fun c_20 => ?_) (fun c_20 => ?_)
    · replace h := h.1 c_20
      refine z_iload_n (pc := 44) dX7_figures_44 rfl ?_
      exact k_iret (pc := 45) hX dX7_figures_45 rfl rfl h
    · replace h := h.2 c_20
      refine z_bipush (pc := 23) (v := 10) dX7_figures_23 bi_10 ?_
      refine z_iload_n (pc := 25) dX7_figures_25 rfl ?_
      refine z_imul (pc := 26) dX7_figures_26 ?_
      refine z_aload_n (pc := 27) dX7_figures_27 rfl ?_
      refine k_getr (pc := 28) (j := 9) zc7 dX7_figures_28 fl_X7_28 (by decide) rfl (by decide) rfl (k2 := 59) rfl ?_
      refine z_iload_n (pc := 31) dX7_figures_31 rfl ?_
      refine k_iald (pc := 32) (j := (Int32.toNatClampNeg x2)) (v := (f 59 (Int32.toNatClampNeg x2))) dX7_figures_32 (by decide) rfl h.1 rfl rfl ?_
      replace h := h.2
      refine z_iadd (pc := 33) dX7_figures_33 ?_
      refine z_name (fun z101 e_z101 => ?_)
      replace h := h z101 e_z101
      refine z_bipush (pc := 34) (v := 48) dX7_figures_34 bi_48 ?_
      refine z_isub (pc := 36) dX7_figures_36 ?_
      refine z_istore_n (pc := 37) (lv' := [(1, .int (z101 - 48)), (0, .ref 52), (2, .int x2)]) dX7_figures_37 (Nat.le_of_ble_eq_true rfl) rfl ?_
      refine z_iinc (pc := 38) (v := (x2 + 1)) (lv' := [(2, .int (x2 + 1)), (1, .int (z101 - 48)), (0, .ref 52)]) dX7_figures_38 rfl (congrArg (fun z => x2 + z) ic_1) (Nat.le_of_ble_eq_true rfl) rfl ?_
      refine z_goto (pc := 41) (t := 7) dX7_figures_41 (by decide) ?_
      exact z_sub [2, 1, 0] rfl h
set_option maxRecDepth 20000 in
theorem w_X7_finding {f : zF} {K : Int32 → zF → Prop} {p1 : Int32} (h : K ((-1000010) - p1) (zup f 52 1 p1)) : ci mX7_finding [.ref 52, .int p1] f K := by
  refine ci_of (by decide) (Nat.le_of_ble_eq_true rfl) (fun X hX => ?_)
  refine z_aload_n (pc := 0) dX7_finding_0 rfl ?_
  refine z_iload_n (pc := 1) dX7_finding_1 rfl ?_
  refine k_puti (pc := 2) (j := 1) zc7 dX7_finding_2 fl_X7_45 (by decide) rfl rfl rfl (by decide) rfl ?_
  refine z_ldc (pc := 5) (v := -1000010) dX7_finding_5 co_X7_48 ?_
  refine z_iload_n (pc := 7) dX7_finding_7 rfl ?_
  refine z_isub (pc := 8) dX7_finding_8 ?_
  exact k_iret (pc := 9) hX dX7_finding_9 rfl rfl h
set_option maxRecDepth 20000 in
theorem w_X7_in {f : zF} {K : Int32 → zF → Prop} {p1 : Int64} {p2 : Int64} {p3 : Int64} (h : (((lg_cmp p1 p2) < 0 → K 0 f) ∧ (¬ (lg_cmp p1 p2) < 0 → ((0 < (lg_cmp p1 p3) → K 0 f) ∧ (¬ 0 < (lg_cmp p1 p3) → K 1 f))))) : ci mX7_in [.long p1, .long p2, .long p3] f K := by
  refine ci_of (by decide) (Nat.le_of_ble_eq_true rfl) (fun X hX => ?_)
  refine z_lload_n (pc := 0) dX7_in_0 rfl ?_
  refine z_lload_n (pc := 1) dX7_in_1 rfl ?_
  refine z_lcmp (pc := 2) dX7_in_2 ?_
  refine z_if_lt (pc := 3) (t := 17) dX7_in_3 (by decide) (fun c_3 => ?_) (fun c_3 => ?_)
  · replace h := h.1 c_3
    refine z_iconst (pc := 17) (v := 0) dX7_in_17 ic_0 ?_
    exact k_iret (pc := 18) hX dX7_in_18 rfl rfl h
  · replace h := h.2 c_3
    refine z_lload_n (pc := 6) dX7_in_6 rfl ?_
    refine z_lload (pc := 7) dX7_in_7 rfl ?_
    refine z_lcmp (pc := 9) dX7_in_9 ?_
    refine z_if_gt (pc := 10) (t := 17) dX7_in_10 (by decide) (fun c_10 => ?_) (fun c_10 => ?_)
    · replace h := h.1 c_10
      refine z_iconst (pc := 17) (v := 0) dX7_in_17 ic_0 ?_
      exact k_iret (pc := 18) hX dX7_in_18 rfl rfl h
    · replace h := h.2 c_10
      refine z_iconst (pc := 13) (v := 1) dX7_in_13 ic_1 ?_
      refine z_goto (pc := 14) (t := 18) dX7_in_14 (by decide) ?_
      exact k_iret (pc := 18) hX dX7_in_18 rfl rfl h
set_option maxRecDepth 20000 in
theorem w_X7_isFigure {f : zF} {K : Int32 → zF → Prop} {p1 : Int32} (h : ((p1 < 48 → K 0 f) ∧ (¬ p1 < 48 → ((57 < p1 → K 0 f) ∧ (¬ 57 < p1 → K 1 f))))) : ci mX7_isFigure [.int p1] f K := by
  refine ci_of (by decide) (Nat.le_of_ble_eq_true rfl) (fun X hX => ?_)
  refine z_iload_n (pc := 0) dX7_isFigure_0 rfl ?_
  refine z_bipush (pc := 1) (v := 48) dX7_isFigure_1 bi_48 ?_
  refine z_icmp_lt (pc := 3) (t := 16) dX7_isFigure_3 (by decide) (fun c_3 => ?_) (fun c_3 => ?_)
  · replace h := h.1 c_3
    refine z_iconst (pc := 16) (v := 0) dX7_isFigure_16 ic_0 ?_
    exact k_iret (pc := 17) hX dX7_isFigure_17 rfl rfl h
  · replace h := h.2 c_3
    refine z_iload_n (pc := 6) dX7_isFigure_6 rfl ?_
    refine z_bipush (pc := 7) (v := 57) dX7_isFigure_7 bi_57 ?_
    refine z_icmp_gt (pc := 9) (t := 16) dX7_isFigure_9 (by decide) (fun c_9 => ?_) (fun c_9 => ?_)
    · replace h := h.1 c_9
      refine z_iconst (pc := 16) (v := 0) dX7_isFigure_16 ic_0 ?_
      exact k_iret (pc := 17) hX dX7_isFigure_17 rfl rfl h
    · replace h := h.2 c_9
      refine z_iconst (pc := 12) (v := 1) dX7_isFigure_12 ic_1 ?_
      refine z_goto (pc := 13) (t := 17) dX7_isFigure_13 (by decide) ?_
      exact k_iret (pc := 17) hX dX7_isFigure_17 rfl rfl h
set_option maxRecDepth 20000 in
theorem w_X7_isLetter {f : zF} {K : Int32 → zF → Prop} {p1 : Int32} (h : ((p1 < 97 → K 0 f) ∧ (¬ p1 < 97 → ((122 < p1 → K 0 f) ∧ (¬ 122 < p1 → K 1 f))))) : ci mX7_isLetter [.int p1] f K := by
  refine ci_of (by decide) (Nat.le_of_ble_eq_true rfl) (fun X hX => ?_)
  refine z_iload_n (pc := 0) dX7_isLetter_0 rfl ?_
  refine z_bipush (pc := 1) (v := 97) dX7_isLetter_1 bi_97 ?_
  refine z_icmp_lt (pc := 3) (t := 16) dX7_isLetter_3 (by decide) (fun c_3 => ?_) (fun c_3 => ?_)
  · replace h := h.1 c_3
    refine z_iconst (pc := 16) (v := 0) dX7_isLetter_16 ic_0 ?_
    exact k_iret (pc := 17) hX dX7_isLetter_17 rfl rfl h
  · replace h := h.2 c_3
    refine z_iload_n (pc := 6) dX7_isLetter_6 rfl ?_
    refine z_bipush (pc := 7) (v := 122) dX7_isLetter_7 bi_122 ?_
    refine z_icmp_gt (pc := 9) (t := 16) dX7_isLetter_9 (by decide) (fun c_9 => ?_) (fun c_9 => ?_)
    · replace h := h.1 c_9
      refine z_iconst (pc := 16) (v := 0) dX7_isLetter_16 ic_0 ?_
      exact k_iret (pc := 17) hX dX7_isLetter_17 rfl rfl h
    · replace h := h.2 c_9
      refine z_iconst (pc := 12) (v := 1) dX7_isLetter_12 ic_1 ?_
      refine z_goto (pc := 13) (t := 17) dX7_isLetter_13 (by decide) ?_
      exact k_iret (pc := 17) hX dX7_isLetter_17 rfl rfl h
set_option maxRecDepth 20000 in
theorem w_X7_isOf {f : zF} {K : Int32 → zF → Prop} {p1 : Int32} {p2 : Int32} (h : ((p2 = 0 → K 1 f) ∧ (¬ p2 = 0 → ((p1 = p2 → K 1 f) ∧ (¬ p1 = p2 → ((¬ p2 = 1 → ((¬ p2 = 4 → K 0 f) ∧ (p2 = 4 → ((¬ p1 = 5 → K 0 f) ∧ (p1 = 5 → K 1 f))))) ∧ (p2 = 1 → ((p1 < 4 → K 1 f) ∧ (¬ p1 < 4 → ((¬ p2 = 4 → K 0 f) ∧ (p2 = 4 → ((¬ p1 = 5 → K 0 f) ∧ (p1 = 5 → K 1 f))))))))))))) : ci mX7_isOf [.int p1, .int p2] f K := by
  refine ci_of (by decide) (Nat.le_of_ble_eq_true rfl) (fun X hX => ?_)
  refine z_iload_n (pc := 0) dX7_isOf_0 rfl ?_
  refine z_if_eq (pc := 1) (t := 29) dX7_isOf_1 (by decide) (fun c_1 => ?_) (fun c_1 => ?_)
  · replace h := h.1 c_1
    refine z_iconst (pc := 29) (v := 1) dX7_isOf_29 ic_1 ?_
    refine z_goto (pc := 30) (t := 34) dX7_isOf_30 (by decide) ?_
    exact k_iret (pc := 34) hX dX7_isOf_34 rfl rfl h
  · replace h := h.2 c_1
    refine z_iload_n (pc := 4) dX7_isOf_4 rfl ?_
    refine z_iload_n (pc := 5) dX7_isOf_5 rfl ?_
    refine z_icmp_eq (pc := 6) (t := 29) dX7_isOf_6 (by decide) (fun c_6 => ?_) (fun c_6 => ?_)
    · replace h := h.1 c_6
      refine z_iconst (pc := 29) (v := 1) dX7_isOf_29 ic_1 ?_
      refine z_goto (pc := 30) (t := 34) dX7_isOf_30 (by decide) ?_
      exact k_iret (pc := 34) hX dX7_isOf_34 rfl rfl h
    · replace h := h.2 c_6
      refine z_iload_n (pc := 9) dX7_isOf_9 rfl ?_
      refine z_iconst (pc := 10) (v := 1) dX7_isOf_10 ic_1 ?_
      refine z_icmp_ne (pc := 11) (t := 19) dX7_isOf_11 (by decide) (fun c_11 => ?_) (fun c_11 => ?_)
      · replace h := h.1 c_11
        refine z_iload_n (pc := 19) dX7_isOf_19 rfl ?_
        refine z_iconst (pc := 20) (v := 4) dX7_isOf_20 ic_4 ?_
        refine z_icmp_ne (pc := 21) (t := 33) dX7_isOf_21 (by decide) (fun c_21 => ?_) (fun c_21 => ?_)
        · replace h := h.1 c_21
          refine z_iconst (pc := 33) (v := 0) dX7_isOf_33 ic_0 ?_
          exact k_iret (pc := 34) hX dX7_isOf_34 rfl rfl h
        · replace h := h.2 c_21
          refine z_iload_n (pc := 24) dX7_isOf_24 rfl ?_
          refine z_iconst (pc := 25) (v := 5) dX7_isOf_25 ic_5 ?_
          refine z_icmp_ne (pc := 26) (t := 33) dX7_isOf_26 (by decide) (fun c_26 => ?_) (fun c_26 => ?_)
          · replace h := h.1 c_26
            refine z_iconst (pc := 33) (v := 0) dX7_isOf_33 ic_0 ?_
            exact k_iret (pc := 34) hX dX7_isOf_34 rfl rfl h
          · replace h := h.2 c_26
            refine z_iconst (pc := 29) (v := 1) dX7_isOf_29 ic_1 ?_
            refine z_goto (pc := 30) (t := 34) dX7_isOf_30 (by decide) ?_
            exact k_iret (pc := 34) hX dX7_isOf_34 rfl rfl h
      · replace h := h.2 c_11
        refine z_iload_n (pc := 14) dX7_isOf_14 rfl ?_
        refine z_iconst (pc := 15) (v := 4) dX7_isOf_15 ic_4 ?_
        refine z_icmp_lt (pc := 16) (t := 29) dX7_isOf_16 (by decide) (fun c_16 => ?_) (fun c_16 => ?_)
        · replace h := h.1 c_16
          refine z_iconst (pc := 29) (v := 1) dX7_isOf_29 ic_1 ?_
          refine z_goto (pc := 30) (t := 34) dX7_isOf_30 (by decide) ?_
          exact k_iret (pc := 34) hX dX7_isOf_34 rfl rfl h
        · replace h := h.2 c_16
          refine z_iload_n (pc := 19) dX7_isOf_19 rfl ?_
          refine z_iconst (pc := 20) (v := 4) dX7_isOf_20 ic_4 ?_
          refine z_icmp_ne (pc := 21) (t := 33) dX7_isOf_21 (by decide) (fun c_21 => ?_) (fun c_21 => ?_)
          · replace h := h.1 c_21
            refine z_iconst (pc := 33) (v := 0) dX7_isOf_33 ic_0 ?_
            exact k_iret (pc := 34) hX dX7_isOf_34 rfl rfl h
          · replace h := h.2 c_21
            refine z_iload_n (pc := 24) dX7_isOf_24 rfl ?_
            refine z_iconst (pc := 25) (v := 5) dX7_isOf_25 ic_5 ?_
            refine z_icmp_ne (pc := 26) (t := 33) dX7_isOf_26 (by decide) (fun c_26 => ?_) (fun c_26 => ?_)
            · replace h := h.1 c_26
              refine z_iconst (pc := 33) (v := 0) dX7_isOf_33 ic_0 ?_
              exact k_iret (pc := 34) hX dX7_isOf_34 rfl rfl h
            · replace h := h.2 c_26
              refine z_iconst (pc := 29) (v := 1) dX7_isOf_29 ic_1 ?_
              refine z_goto (pc := 30) (t := 34) dX7_isOf_30 (by decide) ?_
              exact k_iret (pc := 34) hX dX7_isOf_34 rfl rfl h
set_option maxRecDepth 20000 in
theorem w_X7_isThere {f : zF} {K : Int32 → zF → Prop}  (h : (((f 56 1) ≤ 0 → K 0 f) ∧ (¬ (f 56 1) ≤ 0 → K 1 f))) : ci mX7_isThere [.ref 52] f K := by
  refine ci_of (by decide) (Nat.le_of_ble_eq_true rfl) (fun X hX => ?_)
  refine z_aload_n (pc := 0) dX7_isThere_0 rfl ?_
  refine k_getr (pc := 1) (j := 5) zc7 dX7_isThere_1 fl_X7_19 (by decide) rfl (by decide) rfl (k2 := 56) rfl ?_
  refine z_iconst (pc := 4) (v := 1) dX7_isThere_4 ic_1 ?_
  refine k_iald (pc := 5) (j := 1) (v := (f 56 1)) dX7_isThere_5 (by decide) rfl (by unfold vp_in; decide) (by decide) rfl ?_
  refine z_if_le (pc := 6) (t := 13) dX7_isThere_6 (by decide) (fun c_6 => ?_) (fun c_6 => ?_)
  · replace h := h.1 c_6
    refine z_iconst (pc := 13) (v := 0) dX7_isThere_13 ic_0 ?_
    exact k_iret (pc := 14) hX dX7_isThere_14 rfl rfl h
  · replace h := h.2 c_6
    refine z_iconst (pc := 9) (v := 1) dX7_isThere_9 ic_1 ?_
    refine z_goto (pc := 10) (t := 14) dX7_isThere_10 (by decide) ?_
    exact k_iret (pc := 14) hX dX7_isThere_14 rfl rfl h
set_option maxRecDepth 20000 in
theorem w_X7_keep {f : zF} {K : zF → Prop}  (h : ∀ X, kR X (zRv K) → ((¬ (f 52 8) = 24 → Z X mX7_keep 51 [(0, .ref 52), (1, .int 0)] [] (zC f)) ∧ ((f 52 8) = 24 → Z X mX7_keep 11 [(0, .ref 52), (1, .int 0)] [] (zC f)))) : cv mX7_keep [.ref 52] f K := by
  refine cv_of (by decide) (Nat.le_of_ble_eq_true rfl) (fun X hX => ?_)
  replace h := h X hX
  refine z_aload_n (pc := 0) dX7_keep_0 rfl ?_
  refine k_geti (pc := 1) (j := 8) zc7 dX7_keep_1 fl_X7_167 (by decide) rfl (by decide) rfl (v := (f 52 8)) rfl ?_
  refine z_bipush (pc := 4) (v := 24) dX7_keep_4 bi_24 ?_
  refine z_icmp_ne (pc := 6) (t := 49) dX7_keep_6 (by decide) (fun c_6 => ?_) (fun c_6 => ?_)
  · replace h := h.1 c_6
    refine z_iconst (pc := 49) (v := 0) dX7_keep_49 ic_0 ?_
    refine z_istore_n (pc := 50) (lv' := [(1, .int 0), (0, .ref 52)]) dX7_keep_50 (Nat.le_of_ble_eq_true rfl) rfl ?_
    exact z_sub [1, 0] rfl h
  · replace h := h.2 c_6
    refine z_iconst (pc := 9) (v := 0) dX7_keep_9 ic_0 ?_
    refine z_istore_n (pc := 10) (lv' := [(1, .int 0), (0, .ref 52)]) dX7_keep_10 (Nat.le_of_ble_eq_true rfl) rfl ?_
    exact z_sub [1, 0] rfl h
set_option maxRecDepth 20000 in
theorem l_X7_keep_11 {X : zX} {f : zF} {K : zF → Prop}  {x1 : Int32}  (hX : kR X (zRv K)) (h : ((851 ≤ x1 → Z X mX7_keep 51 [(0, .ref 52), (1, .int 0)] [] (zC (zup f 52 8 ((f 52 8) - 1)))) ∧ (¬ 851 ≤ x1 → (vp_in (x1 + 37) 888 ∧ (vp_in x1 888 ∧ Z X mX7_keep 11 [(0, .ref 52), (1, .int (x1 + 1))] [] (zC (zup f 58 (Int32.toNatClampNeg x1) (f 58 (Int32.toNatClampNeg (x1 + 37)))))))))) : Z X mX7_keep 11 [(0, .ref 52), (1, .int x1)] [] (zC f) := by
  refine z_iload_n (pc := 11) dX7_keep_11 rfl ?_
  refine z_sipush (pc := 12) (v := 851) dX7_keep_12 si_851 ?_
  refine z_icmp_ge (pc := 15) (t := 39) dX7_keep_15 (by decide) (fun c_15 => ?_) (fun c_15 => ?_)
  · replace h := h.1 c_15
    refine z_aload_n (pc := 39) dX7_keep_39 rfl ?_
    refine z_dup (pc := 40) dX7_keep_40 rfl ?_
    refine k_geti (pc := 41) (j := 8) zc7 dX7_keep_41 fl_X7_167 (by decide) rfl (by decide) rfl (v := (f 52 8)) rfl ?_
    refine z_iconst (pc := 44) (v := 1) dX7_keep_44 ic_1 ?_
    refine z_isub (pc := 45) dX7_keep_45 ?_
    refine k_puti (pc := 46) (j := 8) zc7 dX7_keep_46 fl_X7_167 (by decide) rfl rfl rfl (by decide) rfl ?_
    refine z_iconst (pc := 49) (v := 0) dX7_keep_49 ic_0 ?_
    refine z_istore_n (pc := 50) (lv' := [(1, .int 0), (0, .ref 52)]) dX7_keep_50 (Nat.le_of_ble_eq_true rfl) rfl ?_
    exact z_sub [1, 0] rfl h
  · replace h := h.2 c_15
    refine z_aload_n (pc := 18) dX7_keep_18 rfl ?_
    refine k_getr (pc := 19) (j := 7) zc7 dX7_keep_19 fl_X7_25 (by decide) rfl (by decide) rfl (k2 := 58) rfl ?_
    refine z_iload_n (pc := 22) dX7_keep_22 rfl ?_
    refine z_aload_n (pc := 23) dX7_keep_23 rfl ?_
    refine k_getr (pc := 24) (j := 7) zc7 dX7_keep_24 fl_X7_25 (by decide) rfl (by decide) rfl (k2 := 58) rfl ?_
    refine z_iload_n (pc := 27) dX7_keep_27 rfl ?_
    refine z_bipush (pc := 28) (v := 37) dX7_keep_28 bi_37 ?_
    refine z_iadd (pc := 30) dX7_keep_30 ?_
    refine k_iald (pc := 31) (j := (Int32.toNatClampNeg (x1 + 37))) (v := (f 58 (Int32.toNatClampNeg (x1 + 37)))) dX7_keep_31 (by decide) rfl h.1 rfl rfl ?_
    replace h := h.2
    refine k_iast (pc := 32) (j := (Int32.toNatClampNeg x1)) dX7_keep_32 (by decide) rfl h.1 rfl ?_
    replace h := h.2
    refine z_iinc (pc := 33) (v := (x1 + 1)) (lv' := [(1, .int (x1 + 1)), (0, .ref 52)]) dX7_keep_33 rfl (congrArg (fun z => x1 + z) ic_1) (Nat.le_of_ble_eq_true rfl) rfl ?_
    refine z_goto (pc := 36) (t := 11) dX7_keep_36 (by decide) ?_
    exact z_sub [1, 0] rfl h
set_option maxRecDepth 20000 in
theorem l_X7_keep_51 {X : zX} {f : zF} {K : zF → Prop}  {x1 : Int32}  (hX : kR X (zRv K)) (h : ((37 ≤ x1 → K (zup f 52 8 ((f 52 8) + 1))) ∧ (¬ 37 ≤ x1 → (vp_in x1 37 ∧ (vp_in ((37 * (f 52 8)) + x1) 888 ∧ Z X mX7_keep 51 [(0, .ref 52), (1, .int (x1 + 1))] [] (zC (zup f 58 (Int32.toNatClampNeg ((37 * (f 52 8)) + x1)) (f 56 (Int32.toNatClampNeg x1))))))))) : Z X mX7_keep 51 [(0, .ref 52), (1, .int x1)] [] (zC f) := by
  refine z_iload_n (pc := 51) dX7_keep_51 rfl ?_
  refine z_bipush (pc := 52) (v := 37) dX7_keep_52 bi_37 ?_
  refine z_icmp_ge (pc := 54) (t := 83) dX7_keep_54 (by decide) (fun c_54 => ?_) (fun c_54 => ?_)
  · replace h := h.1 c_54
    refine z_aload_n (pc := 83) dX7_keep_83 rfl ?_
    refine z_dup (pc := 84) dX7_keep_84 rfl ?_
    refine k_geti (pc := 85) (j := 8) zc7 dX7_keep_85 fl_X7_167 (by decide) rfl (by decide) rfl (v := (f 52 8)) rfl ?_
    refine z_iconst (pc := 88) (v := 1) dX7_keep_88 ic_1 ?_
    refine z_iadd (pc := 89) dX7_keep_89 ?_
    refine k_puti (pc := 90) (j := 8) zc7 dX7_keep_90 fl_X7_167 (by decide) rfl rfl rfl (by decide) rfl ?_
    exact k_vret (pc := 93) hX dX7_keep_93 rfl h
  · replace h := h.2 c_54
    refine z_aload_n (pc := 57) dX7_keep_57 rfl ?_
    refine k_getr (pc := 58) (j := 7) zc7 dX7_keep_58 fl_X7_25 (by decide) rfl (by decide) rfl (k2 := 58) rfl ?_
    refine z_bipush (pc := 61) (v := 37) dX7_keep_61 bi_37 ?_
    refine z_aload_n (pc := 63) dX7_keep_63 rfl ?_
    refine k_geti (pc := 64) (j := 8) zc7 dX7_keep_64 fl_X7_167 (by decide) rfl (by decide) rfl (v := (f 52 8)) rfl ?_
    refine z_imul (pc := 67) dX7_keep_67 ?_
    refine z_iload_n (pc := 68) dX7_keep_68 rfl ?_
    refine z_iadd (pc := 69) dX7_keep_69 ?_
    refine z_aload_n (pc := 70) dX7_keep_70 rfl ?_
    refine k_getr (pc := 71) (j := 5) zc7 dX7_keep_71 fl_X7_19 (by decide) rfl (by decide) rfl (k2 := 56) rfl ?_
    refine z_iload_n (pc := 74) dX7_keep_74 rfl ?_
    refine k_iald (pc := 75) (j := (Int32.toNatClampNeg x1)) (v := (f 56 (Int32.toNatClampNeg x1))) dX7_keep_75 (by decide) rfl h.1 rfl rfl ?_
    replace h := h.2
    refine k_iast (pc := 76) (j := (Int32.toNatClampNeg ((37 * (f 52 8)) + x1))) dX7_keep_76 (by decide) rfl h.1 rfl ?_
    replace h := h.2
    refine z_iinc (pc := 77) (v := (x1 + 1)) (lv' := [(1, .int (x1 + 1)), (0, .ref 52)]) dX7_keep_77 rfl (congrArg (fun z => x1 + z) ic_1) (Nat.le_of_ble_eq_true rfl) rfl ?_
    refine z_goto (pc := 80) (t := 51) dX7_keep_80 (by decide) ?_
    exact z_sub [1, 0] rfl h
set_option maxRecDepth 20000 in
theorem w_X7_kindBy {f : zF} {K : Int32 → zF → Prop} {p1 : Int64} (h : ((¬ (lg_cmp p1 482854660462) = 0 → ((¬ (lg_cmp p1 1651469412) = 0 → ((¬ (lg_cmp p1 1952999790) = 0 → ((¬ (lg_cmp p1 1835102827) = 0 → ((¬ (lg_cmp p1 6582905) = 0 → K (-1000000) f) ∧ ((lg_cmp p1 6582905) = 0 → K 5 f))) ∧ ((lg_cmp p1 1835102827) = 0 → K 4 f))) ∧ ((lg_cmp p1 1952999790) = 0 → K 3 f))) ∧ ((lg_cmp p1 1651469412) = 0 → K 2 f))) ∧ ((lg_cmp p1 482854660462) = 0 → K 1 f))) : ci mX7_kindBy [.long p1] f K := by
  refine ci_of (by decide) (Nat.le_of_ble_eq_true rfl) (fun X hX => ?_)
  refine z_lload_n (pc := 0) dX7_kindBy_0 rfl ?_
  refine z_ldc2 (pc := 1) (v := 482854660462) dX7_kindBy_1 co_X7_120 ?_
  refine z_lcmp (pc := 4) dX7_kindBy_4 ?_
  refine z_if_ne (pc := 5) (t := 12) dX7_kindBy_5 (by decide) (fun c_5 => ?_) (fun c_5 => ?_)
  · replace h := h.1 c_5
    refine z_lload_n (pc := 12) dX7_kindBy_12 rfl ?_
    refine z_ldc2 (pc := 13) (v := 1651469412) dX7_kindBy_13 co_X7_122 ?_
    refine z_lcmp (pc := 16) dX7_kindBy_16 ?_
    refine z_if_ne (pc := 17) (t := 24) dX7_kindBy_17 (by decide) (fun c_17 => ?_) (fun c_17 => ?_)
    · replace h := h.1 c_17
      refine z_lload_n (pc := 24) dX7_kindBy_24 rfl ?_
      refine z_ldc2 (pc := 25) (v := 1952999790) dX7_kindBy_25 co_X7_124 ?_
      refine z_lcmp (pc := 28) dX7_kindBy_28 ?_
      refine z_if_ne (pc := 29) (t := 36) dX7_kindBy_29 (by decide) (fun c_29 => ?_) (fun c_29 => ?_)
      · replace h := h.1 c_29
        refine z_lload_n (pc := 36) dX7_kindBy_36 rfl ?_
        refine z_ldc2 (pc := 37) (v := 1835102827) dX7_kindBy_37 co_X7_126 ?_
        refine z_lcmp (pc := 40) dX7_kindBy_40 ?_
        refine z_if_ne (pc := 41) (t := 48) dX7_kindBy_41 (by decide) (fun c_41 => ?_) (fun c_41 => ?_)
        · replace h := h.1 c_41
          refine z_lload_n (pc := 48) dX7_kindBy_48 rfl ?_
          refine z_ldc2 (pc := 49) (v := 6582905) dX7_kindBy_49 co_X7_128 ?_
          refine z_lcmp (pc := 52) dX7_kindBy_52 ?_
          refine z_if_ne (pc := 53) (t := 60) dX7_kindBy_53 (by decide) (fun c_53 => ?_) (fun c_53 => ?_)
          · replace h := h.1 c_53
            refine z_ldc (pc := 60) (v := -1000000) dX7_kindBy_60 co_X7_77 ?_
            exact k_iret (pc := 62) hX dX7_kindBy_62 rfl rfl h
          · replace h := h.2 c_53
            refine z_iconst (pc := 56) (v := 5) dX7_kindBy_56 ic_5 ?_
            refine z_goto (pc := 57) (t := 62) dX7_kindBy_57 (by decide) ?_
            exact k_iret (pc := 62) hX dX7_kindBy_62 rfl rfl h
        · replace h := h.2 c_41
          refine z_iconst (pc := 44) (v := 4) dX7_kindBy_44 ic_4 ?_
          refine z_goto (pc := 45) (t := 62) dX7_kindBy_45 (by decide) ?_
          exact k_iret (pc := 62) hX dX7_kindBy_62 rfl rfl h
      · replace h := h.2 c_29
        refine z_iconst (pc := 32) (v := 3) dX7_kindBy_32 ic_3 ?_
        refine z_goto (pc := 33) (t := 62) dX7_kindBy_33 (by decide) ?_
        exact k_iret (pc := 62) hX dX7_kindBy_62 rfl rfl h
    · replace h := h.2 c_17
      refine z_iconst (pc := 20) (v := 2) dX7_kindBy_20 ic_2 ?_
      refine z_goto (pc := 21) (t := 62) dX7_kindBy_21 (by decide) ?_
      exact k_iret (pc := 62) hX dX7_kindBy_62 rfl rfl h
  · replace h := h.2 c_5
    refine z_iconst (pc := 8) (v := 1) dX7_kindBy_8 ic_1 ?_
    refine z_goto (pc := 9) (t := 62) dX7_kindBy_9 (by decide) ?_
    exact k_iret (pc := 62) hX dX7_kindBy_62 rfl rfl h
set_option maxRecDepth 20000 in
theorem w_X7_kindOf {f : zF} {K : Int32 → zF → Prop} {p1 : Int32} (h : (vp_in (3 + (2 * p1)) 37 ∧ K (f 56 (Int32.toNatClampNeg (3 + (2 * p1)))) f)) : ci mX7_kindOf [.ref 52, .int p1] f K := by
  refine ci_of (by decide) (Nat.le_of_ble_eq_true rfl) (fun X hX => ?_)
  refine z_aload_n (pc := 0) dX7_kindOf_0 rfl ?_
  refine k_getr (pc := 1) (j := 5) zc7 dX7_kindOf_1 fl_X7_19 (by decide) rfl (by decide) rfl (k2 := 56) rfl ?_
  refine z_iconst (pc := 4) (v := 3) dX7_kindOf_4 ic_3 ?_
  refine z_iconst (pc := 5) (v := 2) dX7_kindOf_5 ic_2 ?_
  refine z_iload_n (pc := 6) dX7_kindOf_6 rfl ?_
  refine z_imul (pc := 7) dX7_kindOf_7 ?_
  refine z_iadd (pc := 8) dX7_kindOf_8 ?_
  refine k_iald (pc := 9) (j := (Int32.toNatClampNeg (3 + (2 * p1)))) (v := (f 56 (Int32.toNatClampNeg (3 + (2 * p1))))) dX7_kindOf_9 (by decide) rfl h.1 rfl rfl ?_
  replace h := h.2
  exact k_iret (pc := 10) hX dX7_kindOf_10 rfl rfl h
set_option maxRecDepth 20000 in
theorem w_X7_name {f : zF} {K : Int64 → zF → Prop}  (h : ∀ X, kR X (zRl K) → Z X mX7_name 7 [(0, .ref 52), (1, .long 0), (3, .int (f 52 15))] [] (zC f)) : cl mX7_name [.ref 52] f K := by
  refine cl_of (by decide) (Nat.le_of_ble_eq_true rfl) (fun X hX => ?_)
  replace h := h X hX
  refine z_lconst (pc := 0) (v := 0) dX7_name_0 rfl ?_
  refine z_lstore_n (pc := 1) (lv' := [(1, .long 0), (0, .ref 52)]) dX7_name_1 (Nat.le_of_ble_eq_true rfl) rfl ?_
  refine z_aload_n (pc := 2) dX7_name_2 rfl ?_
  refine k_geti (pc := 3) (j := 15) zc7 dX7_name_3 fl_X7_84 (by decide) rfl (by decide) rfl (v := (f 52 15)) rfl ?_
  refine z_istore_n (pc := 6) (lv' := [(3, .int (f 52 15)), (1, .long 0), (0, .ref 52)]) dX7_name_6 (Nat.le_of_ble_eq_true rfl) rfl ?_
  exact z_sub [2, 1, 0] rfl h
set_option maxRecDepth 20000 in
theorem l_X7_name_7 {X : zX} {f : zF} {K : Int64 → zF → Prop}  {x3 : Int32} {y1 : Int64}  (hX : kR X (zRl K)) (h : (((f 52 16) ≤ x3 → ((¬ (f 52 17) = 0 → K 0 f) ∧ ((f 52 17) = 0 → K y1 f))) ∧ (¬ (f 52 16) ≤ x3 → ((¬ (f 52 14) = 2 → ((¬ (f 52 17) = 0 → K 0 f) ∧ ((f 52 17) = 0 → K y1 f))) ∧ ((f 52 14) = 2 → ((8 ≤ ((f 52 16) - (f 52 15)) → ((¬ (f 52 17) = 0 → K 0 f) ∧ ((f 52 17) = 0 → K y1 f))) ∧ (¬ 8 ≤ ((f 52 16) - (f 52 15)) → (vp_in x3 400 ∧ Z X mX7_name 7 [(0, .ref 52), (1, .long ((y1 <<< (Int32.toInt64 8 &&& 63)) ||| (Int32.toInt64 (f 59 (Int32.toNatClampNeg x3))))), (3, .int (x3 + 1))] [] (zC f))))))))) : Z X mX7_name 7 [(0, .ref 52), (1, .long y1), (3, .int x3)] [] (zC f) := by
  refine z_iload_n (pc := 7) dX7_name_7 rfl ?_
  refine z_aload_n (pc := 8) dX7_name_8 rfl ?_
  refine k_geti (pc := 9) (j := 16) zc7 dX7_name_9 fl_X7_96 (by decide) rfl (by decide) rfl (v := (f 52 16)) rfl ?_
  refine z_icmp_ge (pc := 12) (t := 56) dX7_name_12 (by decide) (fun c_12 => ?_) (fun c_12 => ?_)
  · replace h := h.1 c_12
    refine z_aload_n (pc := 56) dX7_name_56 rfl ?_
    refine k_geti (pc := 57) (j := 17) zc7 dX7_name_57 fl_X7_99 (by decide) rfl (by decide) rfl (v := (f 52 17)) rfl ?_
    refine z_if_ne (pc := 60) (t := 67) dX7_name_60 (by decide) (fun c_60 => ?_) (fun c_60 => ?_)
    · replace h := h.1 c_60
      refine z_lconst (pc := 67) (v := 0) dX7_name_67 rfl ?_
      exact k_lret (pc := 68) hX dX7_name_68 rfl h
    · replace h := h.2 c_60
      refine z_lload_n (pc := 63) dX7_name_63 rfl ?_
      refine z_goto (pc := 64) (t := 68) dX7_name_64 (by decide) ?_
      exact k_lret (pc := 68) hX dX7_name_68 rfl h
  · replace h := h.2 c_12
    refine z_aload_n (pc := 15) dX7_name_15 rfl ?_
    refine k_geti (pc := 16) (j := 14) zc7 dX7_name_16 fl_X7_87 (by decide) rfl (by decide) rfl (v := (f 52 14)) rfl ?_
    refine z_iconst (pc := 19) (v := 2) dX7_name_19 ic_2 ?_
    refine z_icmp_ne (pc := 20) (t := 56) dX7_name_20 (by decide) (fun c_20 => ?_) (fun c_20 => ?_)
    · replace h := h.1 c_20
      refine z_aload_n (pc := 56) dX7_name_56 rfl ?_
      refine k_geti (pc := 57) (j := 17) zc7 dX7_name_57 fl_X7_99 (by decide) rfl (by decide) rfl (v := (f 52 17)) rfl ?_
      refine z_if_ne (pc := 60) (t := 67) dX7_name_60 (by decide) (fun c_60 => ?_) (fun c_60 => ?_)
      · replace h := h.1 c_60
        refine z_lconst (pc := 67) (v := 0) dX7_name_67 rfl ?_
        exact k_lret (pc := 68) hX dX7_name_68 rfl h
      · replace h := h.2 c_60
        refine z_lload_n (pc := 63) dX7_name_63 rfl ?_
        refine z_goto (pc := 64) (t := 68) dX7_name_64 (by decide) ?_
        exact k_lret (pc := 68) hX dX7_name_68 rfl h
    · replace h := h.2 c_20
      refine z_aload_n (pc := 23) dX7_name_23 rfl ?_
      refine k_geti (pc := 24) (j := 16) zc7 dX7_name_24 fl_X7_96 (by decide) rfl (by decide) rfl (v := (f 52 16)) rfl ?_
      refine z_aload_n (pc := 27) dX7_name_27 rfl ?_
      refine k_geti (pc := 28) (j := 15) zc7 dX7_name_28 fl_X7_84 (by decide) rfl (by decide) rfl (v := (f 52 15)) rfl ?_
      refine z_isub (pc := 31) dX7_name_31 ?_
      refine z_bipush (pc := 32) (v := 8) dX7_name_32 bi_8 ?_
      refine z_icmp_ge (pc := 34) (t := 56) dX7_name_34 (by decide) (fun c_34 => ?_) (fun c_34 => ?_)
      · replace h := h.1 c_34
        refine z_aload_n (pc := 56) dX7_name_56 rfl ?_
        refine k_geti (pc := 57) (j := 17) zc7 dX7_name_57 fl_X7_99 (by decide) rfl (by decide) rfl (v := (f 52 17)) rfl ?_
        refine z_if_ne (pc := 60) (t := 67) dX7_name_60 (by decide) (fun c_60 => ?_) (fun c_60 => ?_)
        · replace h := h.1 c_60
          refine z_lconst (pc := 67) (v := 0) dX7_name_67 rfl ?_
          exact k_lret (pc := 68) hX dX7_name_68 rfl h
        · replace h := h.2 c_60
          refine z_lload_n (pc := 63) dX7_name_63 rfl ?_
          refine z_goto (pc := 64) (t := 68) dX7_name_64 (by decide) ?_
          exact k_lret (pc := 68) hX dX7_name_68 rfl h
      · replace h := h.2 c_34
        refine z_lload_n (pc := 37) dX7_name_37 rfl ?_
        refine z_bipush (pc := 38) (v := 8) dX7_name_38 bi_8 ?_
        refine z_lshl (pc := 40) dX7_name_40 ?_
        refine z_aload_n (pc := 41) dX7_name_41 rfl ?_
        refine k_getr (pc := 42) (j := 9) zc7 dX7_name_42 fl_X7_28 (by decide) rfl (by decide) rfl (k2 := 59) rfl ?_
        refine z_iload_n (pc := 45) dX7_name_45 rfl ?_
        refine k_iald (pc := 46) (j := (Int32.toNatClampNeg x3)) (v := (f 59 (Int32.toNatClampNeg x3))) dX7_name_46 (by decide) rfl h.1 rfl rfl ?_
        replace h := h.2
        refine z_i2l (pc := 47) dX7_name_47 ?_
        refine z_lor (pc := 48) dX7_name_48 ?_
        refine z_lstore_n (pc := 49) (lv' := [(1, .long ((y1 <<< (Int32.toInt64 8 &&& 63)) ||| (Int32.toInt64 (f 59 (Int32.toNatClampNeg x3))))), (0, .ref 52), (3, .int x3)]) dX7_name_49 (Nat.le_of_ble_eq_true rfl) rfl ?_
        refine z_iinc (pc := 50) (v := (x3 + 1)) (lv' := [(3, .int (x3 + 1)), (1, .long ((y1 <<< (Int32.toInt64 8 &&& 63)) ||| (Int32.toInt64 (f 59 (Int32.toNatClampNeg x3))))), (0, .ref 52)]) dX7_name_50 rfl (congrArg (fun z => x3 + z) ic_1) (Nat.le_of_ble_eq_true rfl) rfl ?_
        refine z_goto (pc := 53) (t := 7) dX7_name_53 (by decide) ?_
        exact z_sub [2, 1, 0] rfl h
set_option maxRecDepth 20000 in
theorem w_X7_on {f : zF} {K : Int32 → zF → Prop} {p1 : Int32} {p2 : Int32} (h : (vp_in ((19 + (9 * p1)) + p2) 37 ∧ K (f 56 (Int32.toNatClampNeg ((19 + (9 * p1)) + p2))) f)) : ci mX7_on [.ref 52, .int p1, .int p2] f K := by
  refine ci_of (by decide) (Nat.le_of_ble_eq_true rfl) (fun X hX => ?_)
  refine z_aload_n (pc := 0) dX7_on_0 rfl ?_
  refine k_getr (pc := 1) (j := 5) zc7 dX7_on_1 fl_X7_19 (by decide) rfl (by decide) rfl (k2 := 56) rfl ?_
  refine z_bipush (pc := 4) (v := 19) dX7_on_4 bi_19 ?_
  refine z_bipush (pc := 6) (v := 9) dX7_on_6 bi_9 ?_
  refine z_iload_n (pc := 8) dX7_on_8 rfl ?_
  refine z_imul (pc := 9) dX7_on_9 ?_
  refine z_iadd (pc := 10) dX7_on_10 ?_
  refine z_iload_n (pc := 11) dX7_on_11 rfl ?_
  refine z_iadd (pc := 12) dX7_on_12 ?_
  refine k_iald (pc := 13) (j := (Int32.toNatClampNeg ((19 + (9 * p1)) + p2))) (v := (f 56 (Int32.toNatClampNeg ((19 + (9 * p1)) + p2)))) dX7_on_13 (by decide) rfl h.1 rfl rfl ?_
  replace h := h.2
  exact k_iret (pc := 14) hX dX7_on_14 rfl rfl h
set_option maxRecDepth 20000 in
theorem w_X7_status {f : zF} {K : Int32 → zF → Prop}  (h : K (f 52 1) (zup f 52 0 0)) : ci mX7_status [.ref 52] f K := by
  refine ci_of (by decide) (Nat.le_of_ble_eq_true rfl) (fun X hX => ?_)
  refine z_aload_n (pc := 0) dX7_status_0 rfl ?_
  refine z_iconst (pc := 1) (v := 0) dX7_status_1 ic_0 ?_
  refine k_puti (pc := 2) (j := 0) zc7 dX7_status_2 fl_X7_41 (by decide) rfl rfl rfl (by decide) rfl ?_
  refine z_aload_n (pc := 5) dX7_status_5 rfl ?_
  refine k_geti (pc := 6) (j := 1) zc7 dX7_status_6 fl_X7_45 (by decide) rfl (by decide) rfl (v := (f 52 1)) rfl ?_
  exact k_iret (pc := 9) hX dX7_status_9 rfl rfl h
set_option maxRecDepth 20000 in
theorem w_X7_turned {f : zF} {K : Int32 → zF → Prop} {p1 : Int32} (h : (∀ z1 : Int32, z1 = (((p1 &&& 73) <<< (2 &&& 31)) ||| (p1 &&& 146)) → K (z1 ||| ((p1 &&& 292) >>> (2 &&& 31))) f)) : ci mX7_turned [.int p1] f K := by
  refine ci_of (by decide) (Nat.le_of_ble_eq_true rfl) (fun X hX => ?_)
  refine z_iload_n (pc := 0) dX7_turned_0 rfl ?_
  refine z_bipush (pc := 1) (v := 73) dX7_turned_1 bi_73 ?_
  refine z_iand (pc := 3) dX7_turned_3 ?_
  refine z_iconst (pc := 4) (v := 2) dX7_turned_4 ic_2 ?_
  refine z_ishl (pc := 5) dX7_turned_5 ?_
  refine z_iload_n (pc := 6) dX7_turned_6 rfl ?_
  refine z_sipush (pc := 7) (v := 146) dX7_turned_7 si_146 ?_
  refine z_iand (pc := 10) dX7_turned_10 ?_
  refine z_ior (pc := 11) dX7_turned_11 ?_
  refine z_name (fun z1 e_z1 => ?_)
  replace h := h z1 e_z1
  refine z_iload_n (pc := 12) dX7_turned_12 rfl ?_
  refine z_sipush (pc := 13) (v := 292) dX7_turned_13 si_292 ?_
  refine z_iand (pc := 16) dX7_turned_16 ?_
  refine z_iconst (pc := 17) (v := 2) dX7_turned_17 ic_2 ?_
  refine z_ishr (pc := 18) dX7_turned_18 ?_
  refine z_ior (pc := 19) dX7_turned_19 ?_
  exact k_iret (pc := 20) hX dX7_turned_20 rfl rfl h
set_option maxRecDepth 20000 in
theorem w_X7_undo {f : zF} {K : Int32 → zF → Prop}  (h : ∀ X, kR X (zRi K) → ((¬ (f 52 8) = 0 → Z X mX7_undo 27 [(0, .ref 52), (1, .int 0)] [] (zC (zup (zup f 52 0 0) 52 8 ((f 52 8) - 1)))) ∧ ((f 52 8) = 0 → K (-1000002) (zup f 52 0 0)))) : ci mX7_undo [.ref 52] f K := by
  refine ci_of (by decide) (Nat.le_of_ble_eq_true rfl) (fun X hX => ?_)
  replace h := h X hX
  refine z_aload_n (pc := 0) dX7_undo_0 rfl ?_
  refine z_iconst (pc := 1) (v := 0) dX7_undo_1 ic_0 ?_
  refine k_puti (pc := 2) (j := 0) zc7 dX7_undo_2 fl_X7_41 (by decide) rfl rfl rfl (by decide) rfl ?_
  refine z_aload_n (pc := 5) dX7_undo_5 rfl ?_
  refine k_geti (pc := 6) (j := 8) zc7 dX7_undo_6 fl_X7_167 (by decide) rfl (by decide) rfl (v := (f 52 8)) rfl ?_
  refine z_if_ne (pc := 9) (t := 15) dX7_undo_9 (by decide) (fun c_9 => ?_) (fun c_9 => ?_)
  · replace h := h.1 c_9
    refine z_aload_n (pc := 15) dX7_undo_15 rfl ?_
    refine z_dup (pc := 16) dX7_undo_16 rfl ?_
    refine k_geti (pc := 17) (j := 8) zc7 dX7_undo_17 fl_X7_167 (by decide) rfl (by decide) rfl (v := (f 52 8)) rfl ?_
    refine z_iconst (pc := 20) (v := 1) dX7_undo_20 ic_1 ?_
    refine z_isub (pc := 21) dX7_undo_21 ?_
    refine k_puti (pc := 22) (j := 8) zc7 dX7_undo_22 fl_X7_167 (by decide) rfl rfl rfl (by decide) rfl ?_
    refine z_iconst (pc := 25) (v := 0) dX7_undo_25 ic_0 ?_
    refine z_istore_n (pc := 26) (lv' := [(1, .int 0), (0, .ref 52)]) dX7_undo_26 (Nat.le_of_ble_eq_true rfl) rfl ?_
    exact z_sub [1, 0] rfl h
  · replace h := h.2 c_9
    refine z_ldc (pc := 12) (v := -1000002) dX7_undo_12 co_X7_213 ?_
    exact k_iret (pc := 14) hX dX7_undo_14 rfl rfl h
set_option maxRecDepth 20000 in
theorem l_X7_undo_27 {X : zX} {f : zF} {K : Int32 → zF → Prop}  {x1 : Int32}  (hX : kR X (zRi K)) (h : ((37 ≤ x1 → K (f 52 8) f) ∧ (¬ 37 ≤ x1 → (vp_in ((37 * (f 52 8)) + x1) 888 ∧ (vp_in x1 37 ∧ Z X mX7_undo 27 [(0, .ref 52), (1, .int (x1 + 1))] [] (zC (zup f 56 (Int32.toNatClampNeg x1) (f 58 (Int32.toNatClampNeg ((37 * (f 52 8)) + x1)))))))))) : Z X mX7_undo 27 [(0, .ref 52), (1, .int x1)] [] (zC f) := by
  refine z_iload_n (pc := 27) dX7_undo_27 rfl ?_
  refine z_bipush (pc := 28) (v := 37) dX7_undo_28 bi_37 ?_
  refine z_icmp_ge (pc := 30) (t := 59) dX7_undo_30 (by decide) (fun c_30 => ?_) (fun c_30 => ?_)
  · replace h := h.1 c_30
    refine z_aload_n (pc := 59) dX7_undo_59 rfl ?_
    refine k_geti (pc := 60) (j := 8) zc7 dX7_undo_60 fl_X7_167 (by decide) rfl (by decide) rfl (v := (f 52 8)) rfl ?_
    exact k_iret (pc := 63) hX dX7_undo_63 rfl rfl h
  · replace h := h.2 c_30
    refine z_aload_n (pc := 33) dX7_undo_33 rfl ?_
    refine k_getr (pc := 34) (j := 5) zc7 dX7_undo_34 fl_X7_19 (by decide) rfl (by decide) rfl (k2 := 56) rfl ?_
    refine z_iload_n (pc := 37) dX7_undo_37 rfl ?_
    refine z_aload_n (pc := 38) dX7_undo_38 rfl ?_
    refine k_getr (pc := 39) (j := 7) zc7 dX7_undo_39 fl_X7_25 (by decide) rfl (by decide) rfl (k2 := 58) rfl ?_
    refine z_bipush (pc := 42) (v := 37) dX7_undo_42 bi_37 ?_
    refine z_aload_n (pc := 44) dX7_undo_44 rfl ?_
    refine k_geti (pc := 45) (j := 8) zc7 dX7_undo_45 fl_X7_167 (by decide) rfl (by decide) rfl (v := (f 52 8)) rfl ?_
    refine z_imul (pc := 48) dX7_undo_48 ?_
    refine z_iload_n (pc := 49) dX7_undo_49 rfl ?_
    refine z_iadd (pc := 50) dX7_undo_50 ?_
    refine k_iald (pc := 51) (j := (Int32.toNatClampNeg ((37 * (f 52 8)) + x1))) (v := (f 58 (Int32.toNatClampNeg ((37 * (f 52 8)) + x1)))) dX7_undo_51 (by decide) rfl h.1 rfl rfl ?_
    replace h := h.2
    refine k_iast (pc := 52) (j := (Int32.toNatClampNeg x1)) dX7_undo_52 (by decide) rfl h.1 rfl ?_
    replace h := h.2
    refine z_iinc (pc := 53) (v := (x1 + 1)) (lv' := [(1, .int (x1 + 1)), (0, .ref 52)]) dX7_undo_53 rfl (congrArg (fun z => x1 + z) ic_1) (Nat.le_of_ble_eq_true rfl) rfl ?_
    refine z_goto (pc := 56) (t := 27) dX7_undo_56 (by decide) ?_
    exact z_sub [1, 0] rfl h
set_option maxRecDepth 20000 in
theorem w_J0_checkIndex_df160 {f : zF} {K : zF → Prop} {p1 : Int32} {p2 : Int32} (h : (ci mJ3_checkIndex_8e157 [.int p1, .int p2, .null] f (fun r1 f1 => K f1) ∧ ci mJ3_checkIndex_8e157 [.int p1, .int p2, .ref 1300] f (fun r2 f2 => K f2))) : cv mJ0_checkIndex_df160 [.int p1, .int p2] f K := by
  refine cv_of (by decide) (Nat.le_of_ble_eq_true rfl) (fun X hX => ?_)
  refine z_iload_n (pc := 0) dJ0_checkIndex_df160_0 rfl ?_
  refine z_iload_n (pc := 1) dJ0_checkIndex_df160_1 rfl ?_
  refine z_getsF (pc := 2) dJ0_checkIndex_df160_2 fl_J0_1053 (fun v hv => ?_)
  rcases hv with rfl | rfl
  · replace h := h.1
    refine k_cSi (pc := 5) (av := [.int p1, .int p2, .null]) dJ0_checkIndex_df160_5 lk_J0_1059 rfl (by decide) (by decide) rfl h (fun r1 f1 h => ?_)
    refine z_pop (pc := 8) dJ0_checkIndex_df160_8 rfl ?_
    exact k_vret (pc := 9) hX dJ0_checkIndex_df160_9 rfl h
  · replace h := h.2
    refine k_cSi (pc := 5) (av := [.int p1, .int p2, .ref 1300]) dJ0_checkIndex_df160_5 lk_J0_1059 rfl (by decide) (by decide) rfl h (fun r2 f2 h => ?_)
    refine z_pop (pc := 8) dJ0_checkIndex_df160_8 rfl ?_
    exact k_vret (pc := 9) hX dJ0_checkIndex_df160_9 rfl h
set_option maxRecDepth 20000 in
theorem w_J0_length_8abf5 {f : zF} {K : Int32 → zF → Prop} {w : Nat} (hw : w < 8) (h : ci mJ0_coder_7d493 [.ref (1000 + w)] f (fun r1 f1 => K ((nI (zLen.getD w 0)) >>> (r1 &&& 31)) f1)) : ci mJ0_length_8abf5 [.ref (1000 + w)] f K := by
  refine ci_of (by decide) (Nat.le_of_ble_eq_true rfl) (fun X hX => ?_)
  refine z_aload_n (pc := 0) dJ0_length_8abf5_0 rfl ?_
  refine z_gSv (pc := 1) dJ0_length_8abf5_1 hw fl_J0_9 ?_
  refine z_alenS (pc := 4) dJ0_length_8abf5_4 hw rfl ?_
  refine z_aload_n (pc := 5) dJ0_length_8abf5_5 rfl ?_
  refine k_cTi (pc := 6) (av := []) rfl dJ0_length_8abf5_6 lk_J0_335 rfl (by decide) (by decide) hw rfl h (fun r1 f1 h => ?_)
  refine z_ishr (pc := 9) dJ0_length_8abf5_9 ?_
  exact k_iret (pc := 10) hX dJ0_length_8abf5_10 rfl rfl h
set_option maxRecDepth 20000 in
theorem w_X0_forgetLatest {f : zF} {K : zF → Prop}  (h : (∀ z1 : Int32, z1 = (if (f 18 3) ≤ 0 then 23 else ((f 18 3) - 1)) → (∀ z2 : Int32, z2 = (if ((f 18 4) - 1) < 0 then 0 else ((f 18 4) - 1)) → K (zup (zup f 18 3 z1) 18 4 z2)))) : cv mX0_forgetLatest [.ref 18] f K := by
  refine cv_of (by decide) (Nat.le_of_ble_eq_true rfl) (fun X hX => ?_)
  refine z_aload_n (pc := 0) dX0_forgetLatest_0 rfl ?_
  refine z_aload_n (pc := 1) dX0_forgetLatest_1 rfl ?_
  refine k_geti (pc := 2) (j := 3) zc0 dX0_forgetLatest_2 fl_X0_21 (by decide) rfl (by decide) rfl (v := (f 18 3)) rfl ?_
  suffices hm3 : Z X mX0_forgetLatest 19 [(0, .ref 18)] [.int (if (f 18 3) ≤ 0 then 23 else ((f 18 3) - 1)), .ref 18] (zC f) by
    refine z_if_le (pc := 5) (t := 17) dX0_forgetLatest_5 (by decide) (fun c_5 => ?_) (fun c_5 => ?_)
    · rw [if_pos c_5] at hm3
      refine z_bipush (pc := 17) (v := 23) dX0_forgetLatest_17 bi_23 ?_
      exact hm3
    · rw [if_neg c_5] at hm3
      refine z_aload_n (pc := 8) dX0_forgetLatest_8 rfl ?_
      refine k_geti (pc := 9) (j := 3) zc0 dX0_forgetLatest_9 fl_X0_21 (by decide) rfl (by decide) rfl (v := (f 18 3)) rfl ?_
      refine z_iconst (pc := 12) (v := 1) dX0_forgetLatest_12 ic_1 ?_
      refine z_isub (pc := 13) dX0_forgetLatest_13 ?_
      refine z_goto (pc := 14) (t := 19) dX0_forgetLatest_14 (by decide) ?_
      exact hm3
  refine z_name (fun z1 e_z1 => ?_)
  replace h := h z1 e_z1
  refine k_puti (pc := 19) (j := 3) zc0 dX0_forgetLatest_19 fl_X0_21 (by decide) rfl rfl rfl (by decide) rfl ?_
  refine z_aload_n (pc := 22) dX0_forgetLatest_22 rfl ?_
  refine z_aload_n (pc := 23) dX0_forgetLatest_23 rfl ?_
  refine k_geti (pc := 24) (j := 4) zc0 dX0_forgetLatest_24 fl_X0_25 (by decide) rfl (by decide) rfl (v := (f 18 4)) rfl ?_
  refine z_iconst (pc := 27) (v := 1) dX0_forgetLatest_27 ic_1 ?_
  refine z_isub (pc := 28) dX0_forgetLatest_28 ?_
  refine z_iconst (pc := 29) (v := 0) dX0_forgetLatest_29 ic_0 ?_
  refine z_mmax (pc := 30) dX0_forgetLatest_30 lk_X0_42 (by decide) rfl ?_
  refine z_name (fun z2 e_z2 => ?_)
  replace h := h z2 e_z2
  refine k_puti (pc := 33) (j := 4) zc0 dX0_forgetLatest_33 fl_X0_25 (by decide) rfl rfl rfl (by decide) rfl ?_
  exact k_vret (pc := 36) hX dX0_forgetLatest_36 rfl h
set_option maxRecDepth 20000 in
theorem w_X0_keep {f : zF} {K : zF → Prop} {p1 : Int32} {p2 : Int32} {p3 : Int32} (h : (∀ z1 : Int32, z1 = (if 24 ≤ ((f 18 3) + 1) then 0 else ((f 18 3) + 1)) → (∀ z2 : Int32, z2 = (if 24 < ((f 18 4) + 1) then 24 else ((f 18 4) + 1)) → cv mX6_putItem [.ref 19, .int z1, .int p1] (zup (zup f 18 3 z1) 18 4 z2) (fun f3 => cv mX6_putItem [.ref 20, .int (f3 18 3), .int p2] f3 (fun f4 => cv mX6_putItem [.ref 21, .int (f4 18 3), .int p3] f4 (fun f5 => K f5)))))) : cv mX0_keep [.ref 18, .int p1, .int p2, .int p3] f K := by
  refine cv_of (by decide) (Nat.le_of_ble_eq_true rfl) (fun X hX => ?_)
  refine z_aload_n (pc := 0) dX0_keep_0 rfl ?_
  refine z_aload_n (pc := 1) dX0_keep_1 rfl ?_
  refine k_geti (pc := 2) (j := 3) zc0 dX0_keep_2 fl_X0_21 (by decide) rfl (by decide) rfl (v := (f 18 3)) rfl ?_
  refine z_iconst (pc := 5) (v := 1) dX0_keep_5 ic_1 ?_
  refine z_iadd (pc := 6) dX0_keep_6 ?_
  refine z_bipush (pc := 7) (v := 24) dX0_keep_7 bi_24 ?_
  suffices hm6 : Z X mX0_keep 22 [(0, .ref 18), (1, .int p1), (2, .int p2), (3, .int p3)] [.int (if 24 ≤ ((f 18 3) + 1) then 0 else ((f 18 3) + 1)), .ref 18] (zC f) by
    refine z_icmp_ge (pc := 9) (t := 21) dX0_keep_9 (by decide) (fun c_9 => ?_) (fun c_9 => ?_)
    · rw [if_pos c_9] at hm6
      refine z_iconst (pc := 21) (v := 0) dX0_keep_21 ic_0 ?_
      exact hm6
    · rw [if_neg c_9] at hm6
      refine z_aload_n (pc := 12) dX0_keep_12 rfl ?_
      refine k_geti (pc := 13) (j := 3) zc0 dX0_keep_13 fl_X0_21 (by decide) rfl (by decide) rfl (v := (f 18 3)) rfl ?_
      refine z_iconst (pc := 16) (v := 1) dX0_keep_16 ic_1 ?_
      refine z_iadd (pc := 17) dX0_keep_17 ?_
      refine z_goto (pc := 18) (t := 22) dX0_keep_18 (by decide) ?_
      exact hm6
  refine z_name (fun z1 e_z1 => ?_)
  replace h := h z1 e_z1
  refine k_puti (pc := 22) (j := 3) zc0 dX0_keep_22 fl_X0_21 (by decide) rfl rfl rfl (by decide) rfl ?_
  refine z_aload_n (pc := 25) dX0_keep_25 rfl ?_
  refine z_aload_n (pc := 26) dX0_keep_26 rfl ?_
  refine k_geti (pc := 27) (j := 4) zc0 dX0_keep_27 fl_X0_25 (by decide) rfl (by decide) rfl (v := (f 18 4)) rfl ?_
  refine z_iconst (pc := 30) (v := 1) dX0_keep_30 ic_1 ?_
  refine z_iadd (pc := 31) dX0_keep_31 ?_
  refine z_bipush (pc := 32) (v := 24) dX0_keep_32 bi_24 ?_
  refine z_mmin (pc := 34) dX0_keep_34 lk_X0_28 (by decide) rfl ?_
  refine z_name (fun z2 e_z2 => ?_)
  replace h := h z2 e_z2
  refine k_puti (pc := 37) (j := 4) zc0 dX0_keep_37 fl_X0_25 (by decide) rfl rfl rfl (by decide) rfl ?_
  refine z_aload_n (pc := 40) dX0_keep_40 rfl ?_
  refine k_getr (pc := 41) (j := 0) zc0 dX0_keep_41 fl_X0_9 (by decide) rfl (by decide) rfl (k2 := 19) rfl ?_
  refine z_aload_n (pc := 44) dX0_keep_44 rfl ?_
  refine k_geti (pc := 45) (j := 3) zc0 dX0_keep_45 fl_X0_21 (by decide) rfl (by decide) rfl (v := z1) rfl ?_
  refine z_iload_n (pc := 48) dX0_keep_48 rfl ?_
  refine k_cSv (pc := 49) (av := [.ref 19, .int z1, .int p1]) dX0_keep_49 lk_X0_34 rfl (by decide) (by decide) rfl h (fun f3 h => ?_)
  refine z_aload_n (pc := 52) dX0_keep_52 rfl ?_
  refine k_getr (pc := 53) (j := 1) zc0 dX0_keep_53 fl_X0_15 (by decide) rfl (by decide) rfl (k2 := 20) rfl ?_
  refine z_aload_n (pc := 56) dX0_keep_56 rfl ?_
  refine k_geti (pc := 57) (j := 3) zc0 dX0_keep_57 fl_X0_21 (by decide) rfl (by decide) rfl (v := (f3 18 3)) rfl ?_
  refine z_iload_n (pc := 60) dX0_keep_60 rfl ?_
  refine k_cSv (pc := 61) (av := [.ref 20, .int (f3 18 3), .int p2]) dX0_keep_61 lk_X0_34 rfl (by decide) (by decide) rfl h (fun f4 h => ?_)
  refine z_aload_n (pc := 64) dX0_keep_64 rfl ?_
  refine k_getr (pc := 65) (j := 2) zc0 dX0_keep_65 fl_X0_18 (by decide) rfl (by decide) rfl (k2 := 21) rfl ?_
  refine z_aload_n (pc := 68) dX0_keep_68 rfl ?_
  refine k_geti (pc := 69) (j := 3) zc0 dX0_keep_69 fl_X0_21 (by decide) rfl (by decide) rfl (v := (f4 18 3)) rfl ?_
  refine z_iload_n (pc := 72) dX0_keep_72 rfl ?_
  refine k_cSv (pc := 73) (av := [.ref 21, .int (f4 18 3), .int p3]) dX0_keep_73 lk_X0_34 rfl (by decide) (by decide) rfl h (fun f5 h => ?_)
  exact k_vret (pc := 76) hX dX0_keep_76 rfl h
set_option maxRecDepth 20000 in
theorem w_X0_latestLetter {f : zF} {K : Int32 → zF → Prop}  (h : ci mX6_itemOf [.ref 21, .int (f 18 3)] f (fun r1 f1 => K r1 f1)) : ci mX0_latestLetter [.ref 18] f K := by
  refine ci_of (by decide) (Nat.le_of_ble_eq_true rfl) (fun X hX => ?_)
  refine z_aload_n (pc := 0) dX0_latestLetter_0 rfl ?_
  refine k_getr (pc := 1) (j := 2) zc0 dX0_latestLetter_1 fl_X0_18 (by decide) rfl (by decide) rfl (k2 := 21) rfl ?_
  refine z_aload_n (pc := 4) dX0_latestLetter_4 rfl ?_
  refine k_geti (pc := 5) (j := 3) zc0 dX0_latestLetter_5 fl_X0_21 (by decide) rfl (by decide) rfl (v := (f 18 3)) rfl ?_
  refine k_cSi (pc := 8) (av := [.ref 21, .int (f 18 3)]) dX0_latestLetter_8 lk_X0_38 rfl (by decide) (by decide) rfl h (fun r1 f1 h => ?_)
  exact k_iret (pc := 11) hX dX0_latestLetter_11 rfl rfl h
set_option maxRecDepth 20000 in
theorem w_X0_latestPlace {f : zF} {K : Int32 → zF → Prop}  (h : ci mX6_itemOf [.ref 20, .int (f 18 3)] f (fun r1 f1 => K r1 f1)) : ci mX0_latestPlace [.ref 18] f K := by
  refine ci_of (by decide) (Nat.le_of_ble_eq_true rfl) (fun X hX => ?_)
  refine z_aload_n (pc := 0) dX0_latestPlace_0 rfl ?_
  refine k_getr (pc := 1) (j := 1) zc0 dX0_latestPlace_1 fl_X0_15 (by decide) rfl (by decide) rfl (k2 := 20) rfl ?_
  refine z_aload_n (pc := 4) dX0_latestPlace_4 rfl ?_
  refine k_geti (pc := 5) (j := 3) zc0 dX0_latestPlace_5 fl_X0_21 (by decide) rfl (by decide) rfl (v := (f 18 3)) rfl ?_
  refine k_cSi (pc := 8) (av := [.ref 20, .int (f 18 3)]) dX0_latestPlace_8 lk_X0_38 rfl (by decide) (by decide) rfl h (fun r1 f1 h => ?_)
  exact k_iret (pc := 11) hX dX0_latestPlace_11 rfl rfl h
set_option maxRecDepth 20000 in
theorem w_X0_latestSide {f : zF} {K : Int32 → zF → Prop}  (h : ci mX6_itemOf [.ref 19, .int (f 18 3)] f (fun r1 f1 => K r1 f1)) : ci mX0_latestSide [.ref 18] f K := by
  refine ci_of (by decide) (Nat.le_of_ble_eq_true rfl) (fun X hX => ?_)
  refine z_aload_n (pc := 0) dX0_latestSide_0 rfl ?_
  refine k_getr (pc := 1) (j := 0) zc0 dX0_latestSide_1 fl_X0_9 (by decide) rfl (by decide) rfl (k2 := 19) rfl ?_
  refine z_aload_n (pc := 4) dX0_latestSide_4 rfl ?_
  refine k_geti (pc := 5) (j := 3) zc0 dX0_latestSide_5 fl_X0_21 (by decide) rfl (by decide) rfl (v := (f 18 3)) rfl ?_
  refine k_cSi (pc := 8) (av := [.ref 19, .int (f 18 3)]) dX0_latestSide_8 lk_X0_38 rfl (by decide) (by decide) rfl h (fun r1 f1 h => ?_)
  exact k_iret (pc := 11) hX dX0_latestSide_11 rfl rfl h
set_option maxRecDepth 20000 in
theorem w_X1_begin {f : zF} {K : zF → Prop} {p1 : Int32} (h : ((16 ≤ (f 22 1) → K f) ∧ (¬ 16 ≤ (f 22 1) → cv mX6_putItem [.ref 23, .int (f 22 1), .int p1] f (fun f1 => K (zup f1 22 1 ((f1 22 1) + 1)))))) : cv mX1_begin [.ref 22, .int p1] f K := by
  refine cv_of (by decide) (Nat.le_of_ble_eq_true rfl) (fun X hX => ?_)
  refine z_aload_n (pc := 0) dX1_begin_0 rfl ?_
  refine k_geti (pc := 1) (j := 1) zc1 dX1_begin_1 fl_X1_15 (by decide) rfl (by decide) rfl (v := (f 22 1)) rfl ?_
  refine z_bipush (pc := 4) (v := 16) dX1_begin_4 bi_16 ?_
  refine z_icmp_ge (pc := 6) (t := 31) dX1_begin_6 (by decide) (fun c_6 => ?_) (fun c_6 => ?_)
  · replace h := h.1 c_6
    exact k_vret (pc := 31) hX dX1_begin_31 rfl h
  · replace h := h.2 c_6
    refine z_aload_n (pc := 9) dX1_begin_9 rfl ?_
    refine k_getr (pc := 10) (j := 0) zc1 dX1_begin_10 fl_X1_9 (by decide) rfl (by decide) rfl (k2 := 23) rfl ?_
    refine z_aload_n (pc := 13) dX1_begin_13 rfl ?_
    refine k_geti (pc := 14) (j := 1) zc1 dX1_begin_14 fl_X1_15 (by decide) rfl (by decide) rfl (v := (f 22 1)) rfl ?_
    refine z_iload_n (pc := 17) dX1_begin_17 rfl ?_
    refine k_cSv (pc := 18) (av := [.ref 23, .int (f 22 1), .int p1]) dX1_begin_18 lk_X1_65 rfl (by decide) (by decide) rfl h (fun f1 h => ?_)
    refine z_aload_n (pc := 21) dX1_begin_21 rfl ?_
    refine z_dup (pc := 22) dX1_begin_22 rfl ?_
    refine k_geti (pc := 23) (j := 1) zc1 dX1_begin_23 fl_X1_15 (by decide) rfl (by decide) rfl (v := (f1 22 1)) rfl ?_
    refine z_iconst (pc := 26) (v := 1) dX1_begin_26 ic_1 ?_
    refine z_iadd (pc := 27) dX1_begin_27 ?_
    refine k_puti (pc := 28) (j := 1) zc1 dX1_begin_28 fl_X1_15 (by decide) rfl rfl rfl (by decide) rfl ?_
    exact k_vret (pc := 31) hX dX1_begin_31 rfl h
