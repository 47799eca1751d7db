/-! ===== preconditions, by program ===== -/
set_option maxRecDepth 20000 in
theorem w_X5_isWord {f : zF} {K : Int32 → zF → Prop} {w : Nat} (hw : w < 8) (h : ∀ X, kR X (zRi K) → ((¬ (f 4 2) = 1 → K 0 f) ∧ ((f 4 2) = 1 → ci mJ0_length_8abf5 [.ref (1000 + w)] f (fun r1 f1 => ((r1 = ((f1 4 4) - (f1 4 3)) → Z X mX5_isWord 28 [(0, .ref 4), (1, .ref (1000 + w)), (2, .int 0)] [] (zC f1)) ∧ (¬ r1 = ((f1 4 4) - (f1 4 3)) → K 0 f1)))))) : ci mX5_isWord [.ref 4, .ref (1000 + w)] f K := by
  refine ci_of (by decide) (Nat.le_of_ble_eq_true rfl) (fun X hX => ?_)
  replace h := h X hX
  refine z_aload_n (pc := 0) dX5_isWord_0 rfl ?_
  refine k_geti (pc := 1) (j := 2) zc5 dX5_isWord_1 fl_X5_42 (by decide) rfl (by decide) rfl (v := (f 4 2)) rfl ?_
  refine z_iconst (pc := 4) (v := 1) dX5_isWord_4 ic_1 ?_
  refine z_icmp_ne (pc := 5) (t := 24) dX5_isWord_5 (by decide) (fun c_5 => ?_) (fun c_5 => ?_)
  · replace h := h.1 c_5
    refine z_iconst (pc := 24) (v := 0) dX5_isWord_24 ic_0 ?_
    exact k_iret (pc := 25) hX dX5_isWord_25 rfl rfl h
  · replace h := h.2 c_5
    refine z_aload_n (pc := 8) dX5_isWord_8 rfl ?_
    refine k_cTi (pc := 9) (av := []) rfl dX5_isWord_9 lk_X5_45 rfl (by decide) (by decide) hw rfl h (fun r1 f1 h => ?_)
    refine z_aload_n (pc := 12) dX5_isWord_12 rfl ?_
    refine k_geti (pc := 13) (j := 4) zc5 dX5_isWord_13 fl_X5_25 (by decide) rfl (by decide) rfl (v := (f1 4 4)) rfl ?_
    refine z_aload_n (pc := 16) dX5_isWord_16 rfl ?_
    refine k_geti (pc := 17) (j := 3) zc5 dX5_isWord_17 fl_X5_39 (by decide) rfl (by decide) rfl (v := (f1 4 3)) rfl ?_
    refine z_isub (pc := 20) dX5_isWord_20 ?_
    refine z_icmp_eq (pc := 21) (t := 26) dX5_isWord_21 (by decide) (fun c_21 => ?_) (fun c_21 => ?_)
    · replace h := h.1 c_21
      refine z_iconst (pc := 26) (v := 0) dX5_isWord_26 ic_0 ?_
      refine z_istore_n (pc := 27) (lv' := [(2, .int 0), (0, .ref 4), (1, .ref (1000 + w))]) dX5_isWord_27 (Nat.le_of_ble_eq_true rfl) rfl ?_
      exact z_sub [1, 2, 0] rfl h
    · replace h := h.2 c_21
      refine z_iconst (pc := 24) (v := 0) dX5_isWord_24 ic_0 ?_
      exact k_iret (pc := 25) hX dX5_isWord_25 rfl rfl h
set_option maxRecDepth 20000 in
theorem l_X5_isWord_28 {X : zX} {f : zF} {K : Int32 → zF → Prop} {w : Nat} (hw : w < 8) {x2 : Int32}  (hX : kR X (zRi K)) (h : ci mJ0_length_8abf5 [.ref (1000 + w)] f (fun r102 f102 => ((r102 ≤ x2 → K 1 f102) ∧ (¬ r102 ≤ x2 → ci mJ0_charAt_5068e [.ref (1000 + w), .int x2] f102 (fun r103 f103 => ci mX6_itemOf [.ref 5, .int ((f103 4 3) + x2)] f103 (fun r104 f104 => ((r103 = r104 → Z X mX5_isWord 28 [(0, .ref 4), (1, .ref (1000 + w)), (2, .int (x2 + 1))] [] (zC f104)) ∧ (¬ r103 = r104 → K 0 f104)))))))) : Z X mX5_isWord 28 [(0, .ref 4), (1, .ref (1000 + w)), (2, .int x2)] [] (zC f) := by
  refine z_iload_n (pc := 28) dX5_isWord_28 rfl ?_
  refine z_aload_n (pc := 29) dX5_isWord_29 rfl ?_
  refine k_cTi (pc := 30) (av := []) rfl dX5_isWord_30 lk_X5_45 rfl (by decide) (by decide) hw rfl h (fun r102 f102 h => ?_)
  refine z_icmp_ge (pc := 33) (t := 65) dX5_isWord_33 (by decide) (fun c_33 => ?_) (fun c_33 => ?_)
  · replace h := h.1 c_33
    refine z_iconst (pc := 65) (v := 1) dX5_isWord_65 ic_1 ?_
    exact k_iret (pc := 66) hX dX5_isWord_66 rfl rfl h
  · replace h := h.2 c_33
    refine z_aload_n (pc := 36) dX5_isWord_36 rfl ?_
    refine z_iload_n (pc := 37) dX5_isWord_37 rfl ?_
    refine k_cTi (pc := 38) (av := [.int x2]) rfl dX5_isWord_38 lk_X5_50 rfl (by decide) (by decide) hw rfl h (fun r103 f103 h => ?_)
    refine z_aload_n (pc := 41) dX5_isWord_41 rfl ?_
    refine k_getr (pc := 42) (j := 0) zc5 dX5_isWord_42 fl_X5_9 (by decide) rfl (by decide) rfl (k2 := 5) rfl ?_
    refine z_aload_n (pc := 45) dX5_isWord_45 rfl ?_
    refine k_geti (pc := 46) (j := 3) zc5 dX5_isWord_46 fl_X5_39 (by decide) rfl (by decide) rfl (v := (f103 4 3)) rfl ?_
    refine z_iload_n (pc := 49) dX5_isWord_49 rfl ?_
    refine z_iadd (pc := 50) dX5_isWord_50 ?_
    refine k_cSi (pc := 51) (av := [.ref 5, .int ((f103 4 3) + x2)]) dX5_isWord_51 lk_X5_31 rfl (by decide) (by decide) rfl h (fun r104 f104 h => ?_)
    refine z_icmp_eq (pc := 54) (t := 59) dX5_isWord_54 (by decide) (fun c_54 => ?_) (fun c_54 => ?_)
    · replace h := h.1 c_54
      refine z_iinc (pc := 59) (v := (x2 + 1)) (lv' := [(2, .int (x2 + 1)), (0, .ref 4), (1, .ref (1000 + w))]) dX5_isWord_59 rfl (congrArg (fun z => x2 + z) ic_1) (Nat.le_of_ble_eq_true rfl) rfl ?_
      refine z_goto (pc := 62) (t := 28) dX5_isWord_62 (by decide) ?_
      exact z_sub [1, 2, 0] rfl h
    · replace h := h.2 c_54
      refine z_iconst (pc := 57) (v := 0) dX5_isWord_57 ic_0 ?_
      exact k_iret (pc := 58) hX dX5_isWord_58 rfl rfl h
set_option maxRecDepth 20000 in
theorem w_X6_answerOfReading {f : zF} {K : Int32 → zF → Prop} {p1 : Int32} {p2 : Int32} (h : ((p2 = 0 → ci mX2_nearest [.ref 12, .int p1] f (fun r1 f1 => K r1 f1)) ∧ (p2 = 1 → ci mX2_leastOff [.ref 12, .int p1] f (fun r2 f2 => K r2 f2)) ∧ (p2 = 2 → ci mX2_isDoubt [.ref 12, .int p1] f (fun r3 f3 => ((r3 = 0 → K 0 f3) ∧ (¬ r3 = 0 → K 1 f3)))) ∧ (¬ p2 = 0 → ¬ p2 = 1 → ¬ p2 = 2 → K (-1000001) f))) : ci mX6_answerOfReading [.ref 0, .int p1, .int p2] f K := by
  refine ci_of (by decide) (Nat.le_of_ble_eq_true rfl) (fun X hX => ?_)
  refine z_iload_n (pc := 0) dX6_answerOfReading_0 rfl ?_
  refine z_tsw3_0 (pc := 1) 28 37 46 63 dX6_answerOfReading_1 rfl (by decide) (by decide) (fun c_1_0 => ?_) (fun c_1_1 => ?_) (fun c_1_2 => ?_) (fun c_1_0 c_1_1 c_1_2 => ?_)
  · replace h := h.1 c_1_0
    refine z_aload_n (pc := 28) dX6_answerOfReading_28 rfl ?_
    refine k_getr (pc := 29) (j := 3) zc6 dX6_answerOfReading_29 fl_X6_29 (by decide) rfl (by decide) rfl (k2 := 12) rfl ?_
    refine z_iload_n (pc := 32) dX6_answerOfReading_32 rfl ?_
    refine k_cVi (pc := 33) (av := [.int p1]) zc2 rfl dX6_answerOfReading_33 lk_X6_255 rfl (by decide) (by decide) (by decide) rfl rfl h (fun r1 f1 h => ?_)
    exact k_iret (pc := 36) hX dX6_answerOfReading_36 rfl rfl h
  · replace h := h.2.1 c_1_1
    refine z_aload_n (pc := 37) dX6_answerOfReading_37 rfl ?_
    refine k_getr (pc := 38) (j := 3) zc6 dX6_answerOfReading_38 fl_X6_29 (by decide) rfl (by decide) rfl (k2 := 12) rfl ?_
    refine z_iload_n (pc := 41) dX6_answerOfReading_41 rfl ?_
    refine k_cVi (pc := 42) (av := [.int p1]) zc2 rfl dX6_answerOfReading_42 lk_X6_258 rfl (by decide) (by decide) (by decide) rfl rfl h (fun r2 f2 h => ?_)
    exact k_iret (pc := 45) hX dX6_answerOfReading_45 rfl rfl h
  · replace h := h.2.2.1 c_1_2
    refine z_aload_n (pc := 46) dX6_answerOfReading_46 rfl ?_
    refine k_getr (pc := 47) (j := 3) zc6 dX6_answerOfReading_47 fl_X6_29 (by decide) rfl (by decide) rfl (k2 := 12) rfl ?_
    refine z_iload_n (pc := 50) dX6_answerOfReading_50 rfl ?_
    refine k_cVi (pc := 51) (av := [.int p1]) zc2 rfl dX6_answerOfReading_51 lk_X6_261 rfl (by decide) (by decide) (by decide) rfl rfl h (fun r3 f3 h => ?_)
    refine z_if_eq (pc := 54) (t := 61) dX6_answerOfReading_54 (by decide) (fun c_54 => ?_) (fun c_54 => ?_)
    · replace h := h.1 c_54
      refine z_iconst (pc := 61) (v := 0) dX6_answerOfReading_61 ic_0 ?_
      exact k_iret (pc := 62) hX dX6_answerOfReading_62 rfl rfl h
    · replace h := h.2 c_54
      refine z_iconst (pc := 57) (v := 1) dX6_answerOfReading_57 ic_1 ?_
      refine z_goto (pc := 58) (t := 62) dX6_answerOfReading_58 (by decide) ?_
      exact k_iret (pc := 62) hX dX6_answerOfReading_62 rfl rfl h
  · replace h := h.2.2.2 c_1_0 c_1_1 c_1_2
    refine z_ldc (pc := 63) (v := -1000001) dX6_answerOfReading_63 co_X6_52 ?_
    exact k_iret (pc := 65) hX dX6_answerOfReading_65 rfl rfl h
set_option maxRecDepth 20000 in
theorem w_X6_count {f : zF} {K : Int32 → zF → Prop} {p1 : Int32} (h : ((p1 = 0 → ci mX6_rowsThere [.ref 0] f (fun r1 f1 => K r1 f1)) ∧ (p1 = 1 → K (f 12 1) f) ∧ (p1 = 2 → K (f 12 2) f) ∧ (p1 = 3 → ci mX2_placesLeftAsTheyStand [.ref 12] f (fun r2 f2 => K r2 f2)) ∧ (p1 = 4 → K (f 18 4) f) ∧ (p1 = 5 → K (f 4 1) f) ∧ (¬ p1 = 0 → ¬ p1 = 1 → ¬ p1 = 2 → ¬ p1 = 3 → ¬ p1 = 4 → ¬ p1 = 5 → K (-1000001) f))) : ci mX6_count [.ref 0, .int p1] f K := by
  refine ci_of (by decide) (Nat.le_of_ble_eq_true rfl) (fun X hX => ?_)
  refine z_iload_n (pc := 0) dX6_count_0 rfl ?_
  refine z_tsw6_0 (pc := 1) 40 45 53 61 69 77 88 dX6_count_1 rfl (by decide) (by decide) (fun c_1_0 => ?_) (fun c_1_1 => ?_) (fun c_1_2 => ?_) (fun c_1_3 => ?_) (fun c_1_4 => ?_) (fun c_1_5 => ?_) (fun c_1_0 c_1_1 c_1_2 c_1_3 c_1_4 c_1_5 => ?_)
  · replace h := h.1 c_1_0
    refine z_aload_n (pc := 40) dX6_count_40 rfl ?_
    refine k_cVi (pc := 41) (av := []) zc6 rfl dX6_count_41 lk_X6_242 rfl (by decide) (by decide) (by decide) rfl rfl h (fun r1 f1 h => ?_)
    exact k_iret (pc := 44) hX dX6_count_44 rfl rfl h
  · replace h := h.2.1 c_1_1
    refine z_aload_n (pc := 45) dX6_count_45 rfl ?_
    refine k_getr (pc := 46) (j := 3) zc6 dX6_count_46 fl_X6_29 (by decide) rfl (by decide) rfl (k2 := 12) rfl ?_
    refine k_geti (pc := 49) (j := 1) zc2 dX6_count_49 fl_X6_245 (by decide) rfl (by decide) rfl (v := (f 12 1)) rfl ?_
    exact k_iret (pc := 52) hX dX6_count_52 rfl rfl h
  · replace h := h.2.2.1 c_1_2
    refine z_aload_n (pc := 53) dX6_count_53 rfl ?_
    refine k_getr (pc := 54) (j := 3) zc6 dX6_count_54 fl_X6_29 (by decide) rfl (by decide) rfl (k2 := 12) rfl ?_
    refine k_geti (pc := 57) (j := 2) zc2 dX6_count_57 fl_X6_121 (by decide) rfl (by decide) rfl (v := (f 12 2)) rfl ?_
    exact k_iret (pc := 60) hX dX6_count_60 rfl rfl h
  · replace h := h.2.2.2.1 c_1_3
    refine z_aload_n (pc := 61) dX6_count_61 rfl ?_
    refine k_getr (pc := 62) (j := 3) zc6 dX6_count_62 fl_X6_29 (by decide) rfl (by decide) rfl (k2 := 12) rfl ?_
    refine k_cVi (pc := 65) (av := []) zc2 rfl dX6_count_65 lk_X6_248 rfl (by decide) (by decide) (by decide) rfl rfl h (fun r2 f2 h => ?_)
    exact k_iret (pc := 68) hX dX6_count_68 rfl rfl h
  · replace h := h.2.2.2.2.1 c_1_4
    refine z_aload_n (pc := 69) dX6_count_69 rfl ?_
    refine k_getr (pc := 70) (j := 4) zc6 dX6_count_70 fl_X6_36 (by decide) rfl (by decide) rfl (k2 := 18) rfl ?_
    refine k_geti (pc := 73) (j := 4) zc0 dX6_count_73 fl_X6_152 (by decide) rfl (by decide) rfl (v := (f 18 4)) rfl ?_
    exact k_iret (pc := 76) hX dX6_count_76 rfl rfl h
  · replace h := h.2.2.2.2.2.1 c_1_5
    refine z_aload_n (pc := 77) dX6_count_77 rfl ?_
    refine k_getr (pc := 78) (j := 2) zc6 dX6_count_78 fl_X6_24 (by decide) rfl (by decide) rfl (k2 := 3) rfl ?_
    refine k_getr (pc := 81) (j := 0) zc3 dX6_count_81 fl_X6_92 (by decide) rfl (by decide) rfl (k2 := 4) rfl ?_
    refine k_geti (pc := 84) (j := 1) zc5 dX6_count_84 fl_X6_102 (by decide) rfl (by decide) rfl (v := (f 4 1)) rfl ?_
    exact k_iret (pc := 87) hX dX6_count_87 rfl rfl h
  · replace h := h.2.2.2.2.2.2 c_1_0 c_1_1 c_1_2 c_1_3 c_1_4 c_1_5
    refine z_ldc (pc := 88) (v := -1000001) dX6_count_88 co_X6_52 ?_
    exact k_iret (pc := 90) hX dX6_count_90 rfl rfl h
set_option maxRecDepth 20000 in
theorem w_X6_harm {f : zF} {K : Int32 → zF → Prop} {p1 : Int32} (h : cq mX6_rowOf [.ref 0, .int p1] f (fun r1 f1 => (r1 = none → ci mX6_refusalOfLetters [.ref 0, .null] f1 (fun r2 f2 => K r2 f2)) ∧ (∀ k1, r1 = some k1 → (isRow k1 ∧ ci mX6_refusalOfLetters [.ref 0, .ref k1] f1 (fun r3 f3 => ((r3 = 0 → ci mX2_harmOf [.ref 12, .ref k1] f3 (fun r4 f4 => ci mX6_unfound [.ref 0, .int r4] f4 (fun r5 f5 => K r5 f5))) ∧ (¬ r3 = 0 → K r3 f3))))))) : ci mX6_harm [.ref 0, .int p1] f K := by
  refine ci_of (by decide) (Nat.le_of_ble_eq_true rfl) (fun X hX => ?_)
  refine z_aload_n (pc := 0) dX6_harm_0 rfl ?_
  refine z_iload_n (pc := 1) dX6_harm_1 rfl ?_
  refine k_cVq (pc := 2) (av := [.int p1]) zc6 rfl dX6_harm_2 lk_X6_48 rfl (by decide) (by decide) (by decide) rfl rfl h (fun r1 f1 h => ?_)
  rcases r1 with _ | k1
  · replace h := h.1 rfl
    refine z_astore_nN (pc := 5) (lv' := [(2, .null), (0, .ref 0), (1, .int p1)]) dX6_harm_5 (Nat.le_of_ble_eq_true rfl) rfl ?_
    refine z_aload_n (pc := 6) dX6_harm_6 rfl ?_
    refine z_aload_nN (pc := 7) dX6_harm_7 rfl ?_
    refine k_cVi (pc := 8) (av := [.null]) zc6 rfl dX6_harm_8 lk_X6_193 rfl (by decide) (by decide) (by decide) rfl rfl h (fun r2 f2 h => ?_)
    refine z_istore_n (pc := 11) (lv' := [(3, .int r2), (2, .null), (0, .ref 0), (1, .int p1)]) dX6_harm_11 (Nat.le_of_ble_eq_true rfl) rfl ?_
    refine z_aload_nN (pc := 12) dX6_harm_12 rfl ?_
    refine z_ifnullN (pc := 13) (t := 20) dX6_harm_13 (by decide) ?_
    refine z_iload_n (pc := 20) dX6_harm_20 rfl ?_
    exact k_iret (pc := 21) hX dX6_harm_21 rfl rfl h
  · replace h := h.2 k1 rfl
    have hk1 := h.1
    replace h := h.2
    refine z_astore_n (pc := 5) (lv' := [(2, .ref k1), (0, .ref 0), (1, .int p1)]) dX6_harm_5 (Nat.le_of_ble_eq_true rfl) rfl ?_
    refine z_aload_n (pc := 6) dX6_harm_6 rfl ?_
    refine z_aload_n (pc := 7) dX6_harm_7 rfl ?_
    refine k_cVi (pc := 8) (av := [.ref k1]) zc6 rfl dX6_harm_8 lk_X6_193 rfl (by decide) (by decide) (by decide) rfl rfl h (fun r3 f3 h => ?_)
    refine z_istore_n (pc := 11) (lv' := [(3, .int r3), (2, .ref k1), (0, .ref 0), (1, .int p1)]) dX6_harm_11 (Nat.le_of_ble_eq_true rfl) rfl ?_
    refine z_aload_n (pc := 12) dX6_harm_12 rfl ?_
    refine z_ifnull (pc := 13) dX6_harm_13 ?_
    refine z_iload_n (pc := 16) dX6_harm_16 rfl ?_
    refine z_if_eq (pc := 17) (t := 22) dX6_harm_17 (by decide) (fun c_17 => ?_) (fun c_17 => ?_)
    · replace h := h.1 c_17
      refine z_aload_n (pc := 22) dX6_harm_22 rfl ?_
      refine z_aload_n (pc := 23) dX6_harm_23 rfl ?_
      refine k_getr (pc := 24) (j := 3) zc6 dX6_harm_24 fl_X6_29 (by decide) rfl (by decide) rfl (k2 := 12) rfl ?_
      refine z_aload_n (pc := 27) dX6_harm_27 rfl ?_
      refine k_cVi (pc := 28) (av := [.ref k1]) zc2 rfl dX6_harm_28 lk_X6_212 rfl (by decide) (by decide) (by decide) rfl rfl h (fun r4 f4 h => ?_)
      refine k_cVi (pc := 31) (av := [.int r4]) zc6 rfl dX6_harm_31 lk_X6_61 rfl (by decide) (by decide) (by decide) rfl rfl h (fun r5 f5 h => ?_)
      exact k_iret (pc := 34) hX dX6_harm_34 rfl rfl h
    · replace h := h.2 c_17
      refine z_iload_n (pc := 20) dX6_harm_20 rfl ?_
      exact k_iret (pc := 21) hX dX6_harm_21 rfl rfl h
set_option maxRecDepth 20000 in
theorem w_X6_leastHarm {f : zF} {K : Int32 → zF → Prop} {p1 : Int32} (h : ∀ X, kR X (zRi K) → ci mX2_isThere [.ref 12] f (fun r1 f1 => ((¬ r1 = 0 → ((p1 < 0 → K (-1000001) f1) ∧ (¬ p1 < 0 → ((p1 ≤ 255 → Z X mX6_leastHarm 36 [(0, .ref 0), (1, .int p1), (2, .int (-1000000)), (3, .int 10), (4, .int 0)] [] (zC f1)) ∧ (¬ p1 ≤ 255 → K (-1000001) f1))))) ∧ (r1 = 0 → K (-1000002) f1)))) : ci mX6_leastHarm [.ref 0, .int p1] f K := by
  refine ci_of (by decide) (Nat.le_of_ble_eq_true rfl) (fun X hX => ?_)
  replace h := h X hX
  refine z_aload_n (pc := 0) dX6_leastHarm_0 rfl ?_
  refine k_getr (pc := 1) (j := 3) zc6 dX6_leastHarm_1 fl_X6_29 (by decide) rfl (by decide) rfl (k2 := 12) rfl ?_
  refine k_cVi (pc := 4) (av := []) zc2 rfl dX6_leastHarm_4 lk_X6_145 rfl (by decide) (by decide) (by decide) rfl rfl h (fun r1 f1 h => ?_)
  refine z_if_ne (pc := 7) (t := 13) dX6_leastHarm_7 (by decide) (fun c_7 => ?_) (fun c_7 => ?_)
  · replace h := h.1 c_7
    refine z_iload_n (pc := 13) dX6_leastHarm_13 rfl ?_
    refine z_if_lt (pc := 14) (t := 24) dX6_leastHarm_14 (by decide) (fun c_14 => ?_) (fun c_14 => ?_)
    · replace h := h.1 c_14
      refine z_ldc (pc := 24) (v := -1000001) dX6_leastHarm_24 co_X6_52 ?_
      exact k_iret (pc := 26) hX dX6_leastHarm_26 rfl rfl h
    · replace h := h.2 c_14
      refine z_iload_n (pc := 17) dX6_leastHarm_17 rfl ?_
      refine z_sipush (pc := 18) (v := 255) dX6_leastHarm_18 si_255 ?_
      refine z_icmp_le (pc := 21) (t := 27) dX6_leastHarm_21 (by decide) (fun c_21 => ?_) (fun c_21 => ?_)
      · replace h := h.1 c_21
        refine z_ldc (pc := 27) (v := -1000000) dX6_leastHarm_27 co_X6_208 ?_
        refine z_istore_n (pc := 29) (lv' := [(2, .int (-1000000)), (0, .ref 0), (1, .int p1)]) dX6_leastHarm_29 (Nat.le_of_ble_eq_true rfl) rfl ?_
        refine z_bipush (pc := 30) (v := 10) dX6_leastHarm_30 bi_10 ?_
        refine z_istore_n (pc := 32) (lv' := [(3, .int 10), (2, .int (-1000000)), (0, .ref 0), (1, .int p1)]) dX6_leastHarm_32 (Nat.le_of_ble_eq_true rfl) rfl ?_
        refine z_iconst (pc := 33) (v := 0) dX6_leastHarm_33 ic_0 ?_
        refine z_istore (pc := 34) (lv' := [(4, .int 0), (3, .int 10), (2, .int (-1000000)), (0, .ref 0), (1, .int p1)]) dX6_leastHarm_34 (Nat.le_of_ble_eq_true rfl) rfl ?_
        exact z_sub [3, 4, 2, 1, 0] rfl h
      · replace h := h.2 c_21
        refine z_ldc (pc := 24) (v := -1000001) dX6_leastHarm_24 co_X6_52 ?_
        exact k_iret (pc := 26) hX dX6_leastHarm_26 rfl rfl h
  · replace h := h.2 c_7
    refine z_ldc (pc := 10) (v := -1000002) dX6_leastHarm_10 co_X6_148 ?_
    exact k_iret (pc := 12) hX dX6_leastHarm_12 rfl rfl h
set_option maxRecDepth 20000 in
theorem l_X6_leastHarm_36 {X : zX} {f : zF} {K : Int32 → zF → Prop}  {x1 x2 x3 x4 : Int32}  (hX : kR X (zRi K)) (h : ((8 ≤ x4 → K x2 f) ∧ (¬ 8 ≤ x4 → cq mX6_rowOf [.ref 0, .int x4] f (fun r102 f102 => (r102 = none → ci mX6_hasBit [.int x1, .int x4] f102 (fun r103 f103 => ((r103 = 0 → Z X mX6_leastHarm 36 [(0, .ref 0), (1, .int x1), (2, .int x2), (3, .int x3), (4, .int (x4 + 1))] [] (zC f103)) ∧ (¬ r103 = 0 → Z X mX6_leastHarm 36 [(0, .ref 0), (1, .int x1), (2, .int x2), (3, .int x3), (4, .int (x4 + 1))] [] (zC f103))))) ∧ (∀ k102, r102 = some k102 → (isRow k102 ∧ ci mX6_hasBit [.int x1, .int x4] f102 (fun r104 f104 => ((r104 = 0 → Z X mX6_leastHarm 36 [(0, .ref 0), (1, .int x1), (2, .int x2), (3, .int x3), (4, .int (x4 + 1))] [] (zC f104)) ∧ (¬ r104 = 0 → ci mX2_canBeABack [.ref 12, .ref k102] f104 (fun r105 f105 => ((r105 = 0 → Z X mX6_leastHarm 36 [(0, .ref 0), (1, .int x1), (2, .int x2), (3, .int x3), (4, .int (x4 + 1))] [] (zC f105)) ∧ (¬ r105 = 0 → ci mX2_harmOf [.ref 12, .ref k102] f105 (fun r106 f106 => ((x3 ≤ r106 → Z X mX6_leastHarm 36 [(0, .ref 0), (1, .int x1), (2, .int x2), (3, .int x3), (4, .int (x4 + 1))] [] (zC f106)) ∧ (¬ x3 ≤ r106 → ci mX2_harmOf [.ref 12, .ref k102] f106 (fun r107 f107 => Z X mX6_leastHarm 36 [(0, .ref 0), (1, .int x1), (2, .int x4), (3, .int r107), (4, .int (x4 + 1))] [] (zC f107))))))))))))))))) : Z X mX6_leastHarm 36 [(0, .ref 0), (1, .int x1), (2, .int x2), (3, .int x3), (4, .int x4)] [] (zC f) := by
  refine z_iload (pc := 36) dX6_leastHarm_36 rfl ?_
  refine z_bipush (pc := 38) (v := 8) dX6_leastHarm_38 bi_8 ?_
  refine z_icmp_ge (pc := 40) (t := 109) dX6_leastHarm_40 (by decide) (fun c_40 => ?_) (fun c_40 => ?_)
  · replace h := h.1 c_40
    refine z_iload_n (pc := 109) dX6_leastHarm_109 rfl ?_
    exact k_iret (pc := 110) hX dX6_leastHarm_110 rfl rfl h
  · replace h := h.2 c_40
    refine z_aload_n (pc := 43) dX6_leastHarm_43 rfl ?_
    refine z_iload (pc := 44) dX6_leastHarm_44 rfl ?_
    refine k_cVq (pc := 46) (av := [.int x4]) zc6 rfl dX6_leastHarm_46 lk_X6_48 rfl (by decide) (by decide) (by decide) rfl rfl h (fun r102 f102 h => ?_)
    rcases r102 with _ | k102
    · replace h := h.1 rfl
      refine z_astoreN (pc := 49) (lv' := [(5, .null), (0, .ref 0), (1, .int x1), (2, .int x2), (3, .int x3), (4, .int x4)]) dX6_leastHarm_49 (Nat.le_of_ble_eq_true rfl) rfl ?_
      refine z_iload_n (pc := 51) dX6_leastHarm_51 rfl ?_
      refine z_iload (pc := 52) dX6_leastHarm_52 rfl ?_
      refine k_cSi (pc := 54) (av := [.int x1, .int x4]) dX6_leastHarm_54 lk_X6_215 rfl (by decide) (by decide) rfl h (fun r103 f103 h => ?_)
      refine z_if_eq (pc := 57) (t := 103) dX6_leastHarm_57 (by decide) (fun c_57 => ?_) (fun c_57 => ?_)
      · replace h := h.1 c_57
        refine z_iinc (pc := 103) (v := (x4 + 1)) (lv' := [(4, .int (x4 + 1)), (5, .null), (0, .ref 0), (1, .int x1), (2, .int x2), (3, .int x3)]) dX6_leastHarm_103 rfl (congrArg (fun z => x4 + z) ic_1) (Nat.le_of_ble_eq_true rfl) rfl ?_
        refine z_goto (pc := 106) (t := 36) dX6_leastHarm_106 (by decide) ?_
        exact z_sub [2, 3, 4, 5, 0] rfl h
      · replace h := h.2 c_57
        refine z_aloadN (pc := 60) dX6_leastHarm_60 rfl ?_
        refine z_ifnullN (pc := 62) (t := 103) dX6_leastHarm_62 (by decide) ?_
        refine z_iinc (pc := 103) (v := (x4 + 1)) (lv' := [(4, .int (x4 + 1)), (5, .null), (0, .ref 0), (1, .int x1), (2, .int x2), (3, .int x3)]) dX6_leastHarm_103 rfl (congrArg (fun z => x4 + z) ic_1) (Nat.le_of_ble_eq_true rfl) rfl ?_
        refine z_goto (pc := 106) (t := 36) dX6_leastHarm_106 (by decide) ?_
        exact z_sub [2, 3, 4, 5, 0] rfl h
    · replace h := h.2 k102 rfl
      have hk102 := h.1
      replace h := h.2
      refine z_astore (pc := 49) (lv' := [(5, .ref k102), (0, .ref 0), (1, .int x1), (2, .int x2), (3, .int x3), (4, .int x4)]) dX6_leastHarm_49 (Nat.le_of_ble_eq_true rfl) rfl ?_
      refine z_iload_n (pc := 51) dX6_leastHarm_51 rfl ?_
      refine z_iload (pc := 52) dX6_leastHarm_52 rfl ?_
      refine k_cSi (pc := 54) (av := [.int x1, .int x4]) dX6_leastHarm_54 lk_X6_215 rfl (by decide) (by decide) rfl h (fun r104 f104 h => ?_)
      refine z_if_eq (pc := 57) (t := 103) dX6_leastHarm_57 (by decide) (fun c_57 => ?_) (fun c_57 => ?_)
      · replace h := h.1 c_57
        refine z_iinc (pc := 103) (v := (x4 + 1)) (lv' := [(4, .int (x4 + 1)), (5, .ref k102), (0, .ref 0), (1, .int x1), (2, .int x2), (3, .int x3)]) dX6_leastHarm_103 rfl (congrArg (fun z => x4 + z) ic_1) (Nat.le_of_ble_eq_true rfl) rfl ?_
        refine z_goto (pc := 106) (t := 36) dX6_leastHarm_106 (by decide) ?_
        exact z_sub [2, 3, 4, 5, 0] rfl h
      · replace h := h.2 c_57
        refine z_aload (pc := 60) dX6_leastHarm_60 rfl ?_
        refine z_ifnull (pc := 62) dX6_leastHarm_62 ?_
        refine z_aload_n (pc := 65) dX6_leastHarm_65 rfl ?_
        refine k_getr (pc := 66) (j := 3) zc6 dX6_leastHarm_66 fl_X6_29 (by decide) rfl (by decide) rfl (k2 := 12) rfl ?_
        refine z_aload (pc := 69) dX6_leastHarm_69 rfl ?_
        refine k_cVi (pc := 71) (av := [.ref k102]) zc2 rfl dX6_leastHarm_71 lk_X6_218 rfl (by decide) (by decide) (by decide) rfl rfl h (fun r105 f105 h => ?_)
        refine z_if_eq (pc := 74) (t := 103) dX6_leastHarm_74 (by decide) (fun c_74 => ?_) (fun c_74 => ?_)
        · replace h := h.1 c_74
          refine z_iinc (pc := 103) (v := (x4 + 1)) (lv' := [(4, .int (x4 + 1)), (5, .ref k102), (0, .ref 0), (1, .int x1), (2, .int x2), (3, .int x3)]) dX6_leastHarm_103 rfl (congrArg (fun z => x4 + z) ic_1) (Nat.le_of_ble_eq_true rfl) rfl ?_
          refine z_goto (pc := 106) (t := 36) dX6_leastHarm_106 (by decide) ?_
          exact z_sub [2, 3, 4, 5, 0] rfl h
        · replace h := h.2 c_74
          refine z_aload_n (pc := 77) dX6_leastHarm_77 rfl ?_
          refine k_getr (pc := 78) (j := 3) zc6 dX6_leastHarm_78 fl_X6_29 (by decide) rfl (by decide) rfl (k2 := 12) rfl ?_
          refine z_aload (pc := 81) dX6_leastHarm_81 rfl ?_
          refine k_cVi (pc := 83) (av := [.ref k102]) zc2 rfl dX6_leastHarm_83 lk_X6_212 rfl (by decide) (by decide) (by decide) rfl rfl h (fun r106 f106 h => ?_)
          refine z_iload_n (pc := 86) dX6_leastHarm_86 rfl ?_
          refine z_icmp_ge (pc := 87) (t := 103) dX6_leastHarm_87 (by decide) (fun c_87 => ?_) (fun c_87 => ?_)
          · replace h := h.1 c_87
            refine z_iinc (pc := 103) (v := (x4 + 1)) (lv' := [(4, .int (x4 + 1)), (5, .ref k102), (0, .ref 0), (1, .int x1), (2, .int x2), (3, .int x3)]) dX6_leastHarm_103 rfl (congrArg (fun z => x4 + z) ic_1) (Nat.le_of_ble_eq_true rfl) rfl ?_
            refine z_goto (pc := 106) (t := 36) dX6_leastHarm_106 (by decide) ?_
            exact z_sub [2, 3, 4, 5, 0] rfl h
          · replace h := h.2 c_87
            refine z_iload (pc := 90) dX6_leastHarm_90 rfl ?_
            refine z_istore_n (pc := 92) (lv' := [(2, .int x4), (5, .ref k102), (0, .ref 0), (1, .int x1), (3, .int x3), (4, .int x4)]) dX6_leastHarm_92 (Nat.le_of_ble_eq_true rfl) rfl ?_
            refine z_aload_n (pc := 93) dX6_leastHarm_93 rfl ?_
            refine k_getr (pc := 94) (j := 3) zc6 dX6_leastHarm_94 fl_X6_29 (by decide) rfl (by decide) rfl (k2 := 12) rfl ?_
            refine z_aload (pc := 97) dX6_leastHarm_97 rfl ?_
            refine k_cVi (pc := 99) (av := [.ref k102]) zc2 rfl dX6_leastHarm_99 lk_X6_212 rfl (by decide) (by decide) (by decide) rfl rfl h (fun r107 f107 h => ?_)
            refine z_istore_n (pc := 102) (lv' := [(3, .int r107), (2, .int x4), (5, .ref k102), (0, .ref 0), (1, .int x1), (4, .int x4)]) dX6_leastHarm_102 (Nat.le_of_ble_eq_true rfl) rfl ?_
            refine z_iinc (pc := 103) (v := (x4 + 1)) (lv' := [(4, .int (x4 + 1)), (3, .int r107), (2, .int x4), (5, .ref k102), (0, .ref 0), (1, .int x1)]) dX6_leastHarm_103 rfl (congrArg (fun z => x4 + z) ic_1) (Nat.le_of_ble_eq_true rfl) rfl ?_
            refine z_goto (pc := 106) (t := 36) dX6_leastHarm_106 (by decide) ?_
            exact z_sub [4, 5, 2, 1, 0] rfl h
set_option maxRecDepth 20000 in
theorem w_X6_safe {f : zF} {K : Int32 → zF → Prop} {p1 : Int32} (h : ci mX2_hasLetter [.ref 12, .int p1] f (fun r1 f1 => ((r1 = 0 → K (-1000001) f1) ∧ (¬ r1 = 0 → ci mX2_behindToRead [.ref 12, .int p1, .int p1] f1 (fun r2 f2 => K r2 f2))))) : ci mX6_safe [.ref 0, .int p1] f K := by
  refine ci_of (by decide) (Nat.le_of_ble_eq_true rfl) (fun X hX => ?_)
  refine z_aload_n (pc := 0) dX6_safe_0 rfl ?_
  refine k_getr (pc := 1) (j := 3) zc6 dX6_safe_1 fl_X6_29 (by decide) rfl (by decide) rfl (k2 := 12) rfl ?_
  refine z_iload_n (pc := 4) dX6_safe_4 rfl ?_
  refine k_cVi (pc := 5) (av := [.int p1]) zc2 rfl dX6_safe_5 lk_X6_130 rfl (by decide) (by decide) (by decide) rfl rfl h (fun r1 f1 h => ?_)
  refine z_if_eq (pc := 8) (t := 23) dX6_safe_8 (by decide) (fun c_8 => ?_) (fun c_8 => ?_)
  · replace h := h.1 c_8
    refine z_ldc (pc := 23) (v := -1000001) dX6_safe_23 co_X6_52 ?_
    exact k_iret (pc := 25) hX dX6_safe_25 rfl rfl h
  · replace h := h.2 c_8
    refine z_aload_n (pc := 11) dX6_safe_11 rfl ?_
    refine k_getr (pc := 12) (j := 3) zc6 dX6_safe_12 fl_X6_29 (by decide) rfl (by decide) rfl (k2 := 12) rfl ?_
    refine z_iload_n (pc := 15) dX6_safe_15 rfl ?_
    refine z_iload_n (pc := 16) dX6_safe_16 rfl ?_
    refine k_cVi (pc := 17) (av := [.int p1, .int p1]) zc2 rfl dX6_safe_17 lk_X6_222 rfl (by decide) (by decide) (by decide) rfl rfl h (fun r2 f2 h => ?_)
    refine z_goto (pc := 20) (t := 25) dX6_safe_20 (by decide) ?_
    exact k_iret (pc := 25) hX dX6_safe_25 rfl rfl h
set_option maxRecDepth 20000 in
theorem w_X7_ask {f : zF} {K : Int32 → zF → Prop} {p1 : Int32} {p2 : Int32} (h : ci mX7_isOne [.ref 52, .int p1] (zup f 52 0 0) (fun r1 f1 => ((r1 = 0 → K (-1000001) f1) ∧ (¬ r1 = 0 → ci mX7_in [.long (Int32.toInt64 p2), .long 0, .long 1] f1 (fun r2 f2 => ((¬ r2 = 0 → ((¬ p2 = 0 → ci mX7_markOf [.ref 52, .int p1] (zup f2 52 24 0) (fun r3 f3 => K r3 f3)) ∧ (p2 = 0 → ci mX7_sizeOf [.ref 52, .int p1] (zup f2 52 24 0) (fun r4 f4 => K r4 f4)))) ∧ (r2 = 0 → K (-1000001) f2))))))) : ci mX7_ask [.ref 52, .int p1, .int p2] f K := by
  refine ci_of (by decide) (Nat.le_of_ble_eq_true rfl) (fun X hX => ?_)
  refine z_aload_n (pc := 0) dX7_ask_0 rfl ?_
  refine z_iconst (pc := 1) (v := 0) dX7_ask_1 ic_0 ?_
  refine k_puti (pc := 2) (j := 0) zc7 dX7_ask_2 fl_X7_41 (by decide) rfl rfl rfl (by decide) rfl ?_
  refine z_aload_n (pc := 5) dX7_ask_5 rfl ?_
  refine z_iload_n (pc := 6) dX7_ask_6 rfl ?_
  refine k_cVi (pc := 7) (av := [.int p1]) zc7 rfl dX7_ask_7 lk_X7_203 rfl (by decide) (by decide) (by decide) rfl rfl h (fun r1 f1 h => ?_)
  refine z_if_eq (pc := 10) (t := 23) dX7_ask_10 (by decide) (fun c_10 => ?_) (fun c_10 => ?_)
  · replace h := h.1 c_10
    refine z_ldc (pc := 23) (v := -1000001) dX7_ask_23 co_X7_61 ?_
    exact k_iret (pc := 25) hX dX7_ask_25 rfl rfl h
  · replace h := h.2 c_10
    refine z_iload_n (pc := 13) dX7_ask_13 rfl ?_
    refine z_i2l (pc := 14) dX7_ask_14 ?_
    refine z_lconst (pc := 15) (v := 0) dX7_ask_15 rfl ?_
    refine z_lconst (pc := 16) (v := 1) dX7_ask_16 rfl ?_
    refine k_cSi (pc := 17) (av := [.long (Int32.toInt64 p2), .long 0, .long 1]) dX7_ask_17 lk_X7_51 rfl (by decide) (by decide) rfl h (fun r2 f2 h => ?_)
    refine z_if_ne (pc := 20) (t := 26) dX7_ask_20 (by decide) (fun c_20 => ?_) (fun c_20 => ?_)
    · replace h := h.1 c_20
      refine z_aload_n (pc := 26) dX7_ask_26 rfl ?_
      refine z_iconst (pc := 27) (v := 0) dX7_ask_27 ic_0 ?_
      refine k_puti (pc := 28) (j := 24) zc7 dX7_ask_28 fl_X7_248 (by decide) rfl rfl rfl (by decide) rfl ?_
      refine z_iload_n (pc := 31) dX7_ask_31 rfl ?_
      refine z_if_ne (pc := 32) (t := 43) dX7_ask_32 (by decide) (fun c_32 => ?_) (fun c_32 => ?_)
      · replace h := h.1 c_32
        refine z_aload_n (pc := 43) dX7_ask_43 rfl ?_
        refine z_iload_n (pc := 44) dX7_ask_44 rfl ?_
        refine k_cVi (pc := 45) (av := [.int p1]) zc7 rfl dX7_ask_45 lk_X7_260 rfl (by decide) (by decide) (by decide) rfl rfl h (fun r3 f3 h => ?_)
        exact k_iret (pc := 48) hX dX7_ask_48 rfl rfl h
      · replace h := h.2 c_32
        refine z_aload_n (pc := 35) dX7_ask_35 rfl ?_
        refine z_iload_n (pc := 36) dX7_ask_36 rfl ?_
        refine k_cVi (pc := 37) (av := [.int p1]) zc7 rfl dX7_ask_37 lk_X7_263 rfl (by decide) (by decide) (by decide) rfl rfl h (fun r4 f4 h => ?_)
        refine z_goto (pc := 40) (t := 48) dX7_ask_40 (by decide) ?_
        exact k_iret (pc := 48) hX dX7_ask_48 rfl rfl h
    · replace h := h.2 c_20
      refine z_ldc (pc := 23) (v := -1000001) dX7_ask_23 co_X7_61 ?_
      exact k_iret (pc := 25) hX dX7_ask_25 rfl rfl h
set_option maxRecDepth 20000 in
theorem w_X7_readSheet {f : zF} {K : zF → Prop}  (h : ∀ X, kR X (zRv K) → cl mX7_name [.ref 52] f (fun r1 f1 => (∀ z2 : Int32, z2 = (if (lg_cmp r1 495672714612) = 0 then 1 else 0) → cv mX7_must [.ref 52, .int z2] f1 (fun f3 => cv mX7_readFront [.ref 52] f3 (fun f4 => ((¬ (f4 52 17) = 0 → Z X mX7_readSheet 50 [(0, .ref 52), (1, .int 0)] [] (zC f4)) ∧ ((f4 52 17) = 0 → (∀ z5 : Int32, z5 = (if (f4 52 14) = 5 then 1 else 0) → cv mX7_must [.ref 52, .int z5] f4 (fun f6 => Z X mX7_readSheet 50 [(0, .ref 52), (1, .int 0)] [] (zC f6)))))))))) : cv mX7_readSheet [.ref 52] f K := by
  refine cv_of (by decide) (Nat.le_of_ble_eq_true rfl) (fun X hX => ?_)
  replace h := h X hX
  refine z_aload_n (pc := 0) dX7_readSheet_0 rfl ?_
  refine z_aload_n (pc := 1) dX7_readSheet_1 rfl ?_
  refine k_cVl (pc := 2) (av := []) zc7 rfl dX7_readSheet_2 lk_X7_130 rfl (by decide) (by decide) (by decide) rfl rfl h (fun r1 f1 h => ?_)
  refine z_ldc2 (pc := 5) (v := 495672714612) dX7_readSheet_5 co_X7_145 ?_
  refine z_lcmp (pc := 8) dX7_readSheet_8 ?_
  suffices hm8 : Z X mX7_readSheet 17 [(0, .ref 52)] [.int (if (lg_cmp r1 495672714612) = 0 then 1 else 0), .ref 52] (zC f1) by
    refine z_if_ne (pc := 9) (t := 16) dX7_readSheet_9 (by decide) (fun c_9 => ?_) (fun c_9 => ?_)
    · rw [if_neg c_9] at hm8
      refine z_iconst (pc := 16) (v := 0) dX7_readSheet_16 ic_0 ?_
      exact hm8
    · rw [if_pos c_9] at hm8
      refine z_iconst (pc := 12) (v := 1) dX7_readSheet_12 ic_1 ?_
      refine z_goto (pc := 13) (t := 17) dX7_readSheet_13 (by decide) ?_
      exact hm8
  refine z_name (fun z2 e_z2 => ?_)
  replace h := h z2 e_z2
  refine k_cVv (pc := 17) (av := [.int z2]) zc7 rfl dX7_readSheet_17 lk_X7_116 rfl (by decide) (by decide) (by decide) rfl rfl h (fun f3 h => ?_)
  refine z_aload_n (pc := 20) dX7_readSheet_20 rfl ?_
  refine k_cVv (pc := 21) (av := []) zc7 rfl dX7_readSheet_21 lk_X7_147 rfl (by decide) (by decide) (by decide) rfl rfl h (fun f4 h => ?_)
  refine z_aload_n (pc := 24) dX7_readSheet_24 rfl ?_
  refine k_geti (pc := 25) (j := 17) zc7 dX7_readSheet_25 fl_X7_99 (by decide) rfl (by decide) rfl (v := (f4 52 17)) rfl ?_
  refine z_if_ne (pc := 28) (t := 48) dX7_readSheet_28 (by decide) (fun c_28 => ?_) (fun c_28 => ?_)
  · replace h := h.1 c_28
    refine z_iconst (pc := 48) (v := 0) dX7_readSheet_48 ic_0 ?_
    refine z_istore_n (pc := 49) (lv' := [(1, .int 0), (0, .ref 52)]) dX7_readSheet_49 (Nat.le_of_ble_eq_true rfl) rfl ?_
    exact z_sub [1, 0] rfl h
  · replace h := h.2 c_28
    refine z_aload_n (pc := 31) dX7_readSheet_31 rfl ?_
    refine z_aload_n (pc := 32) dX7_readSheet_32 rfl ?_
    refine k_geti (pc := 33) (j := 14) zc7 dX7_readSheet_33 fl_X7_87 (by decide) rfl (by decide) rfl (v := (f4 52 14)) rfl ?_
    refine z_iconst (pc := 36) (v := 5) dX7_readSheet_36 ic_5 ?_
    suffices hm7 : Z X mX7_readSheet 45 [(0, .ref 52)] [.int (if (f4 52 14) = 5 then 1 else 0), .ref 52] (zC f4) by
      refine z_icmp_ne (pc := 37) (t := 44) dX7_readSheet_37 (by decide) (fun c_37 => ?_) (fun c_37 => ?_)
      · rw [if_neg c_37] at hm7
        refine z_iconst (pc := 44) (v := 0) dX7_readSheet_44 ic_0 ?_
        exact hm7
      · rw [if_pos c_37] at hm7
        refine z_iconst (pc := 40) (v := 1) dX7_readSheet_40 ic_1 ?_
        refine z_goto (pc := 41) (t := 45) dX7_readSheet_41 (by decide) ?_
        exact hm7
    refine z_name (fun z5 e_z5 => ?_)
    replace h := h z5 e_z5
    refine k_cVv (pc := 45) (av := [.int z5]) zc7 rfl dX7_readSheet_45 lk_X7_116 rfl (by decide) (by decide) (by decide) rfl rfl h (fun f6 h => ?_)
    refine z_iconst (pc := 48) (v := 0) dX7_readSheet_48 ic_0 ?_
    refine z_istore_n (pc := 49) (lv' := [(1, .int 0), (0, .ref 52)]) dX7_readSheet_49 (Nat.le_of_ble_eq_true rfl) rfl ?_
    exact z_sub [1, 0] rfl h
set_option maxRecDepth 20000 in
theorem l_X7_readSheet_50 {X : zX} {f : zF} {K : zF → Prop}  {x1 : Int32}  (hX : kR X (zRv K)) (h : (((f 57 2) ≤ x1 → cv mX7_mustEnd [.ref 52] f (fun f109 => K f109)) ∧ (¬ (f 57 2) ≤ x1 → ((¬ (f 52 17) = 0 → cv mX7_mustEnd [.ref 52] f (fun f110 => K f110)) ∧ ((f 52 17) = 0 → ci mX7_number [.ref 52, .int 0, .int ((f 57 1) - 1)] f (fun r111 f111 => (∀ z112 : Int32, z112 = (if (f111 52 17) = 0 then r111 else 0) → (vp_in (28 + x1) 37 ∧ Z X mX7_readSheet 50 [(0, .ref 52), (1, .int (x1 + 1))] [] (zC (zup f111 57 (Int32.toNatClampNeg (28 + x1)) z112)))))))))) : Z X mX7_readSheet 50 [(0, .ref 52), (1, .int x1)] [] (zC f) := by
  refine z_iload_n (pc := 50) dX7_readSheet_50 rfl ?_
  refine z_aload_n (pc := 51) dX7_readSheet_51 rfl ?_
  refine k_getr (pc := 52) (j := 6) zc7 dX7_readSheet_52 fl_X7_22 (by decide) rfl (by decide) rfl (k2 := 57) rfl ?_
  refine z_iconst (pc := 55) (v := 2) dX7_readSheet_55 ic_2 ?_
  refine k_iald (pc := 56) (j := 2) (v := (f 57 2)) dX7_readSheet_56 (by decide) rfl (by unfold vp_in; decide) (by decide) rfl ?_
  refine z_icmp_ge (pc := 57) (t := 108) dX7_readSheet_57 (by decide) (fun c_57 => ?_) (fun c_57 => ?_)
  · replace h := h.1 c_57
    refine z_aload_n (pc := 108) dX7_readSheet_108 rfl ?_
    refine k_cVv (pc := 109) (av := []) zc7 rfl dX7_readSheet_109 lk_X7_142 rfl (by decide) (by decide) (by decide) rfl rfl h (fun f109 h => ?_)
    exact k_vret (pc := 112) hX dX7_readSheet_112 rfl h
  · replace h := h.2 c_57
    refine z_aload_n (pc := 60) dX7_readSheet_60 rfl ?_
    refine k_geti (pc := 61) (j := 17) zc7 dX7_readSheet_61 fl_X7_99 (by decide) rfl (by decide) rfl (v := (f 52 17)) rfl ?_
    refine z_if_ne (pc := 64) (t := 108) dX7_readSheet_64 (by decide) (fun c_64 => ?_) (fun c_64 => ?_)
    · replace h := h.1 c_64
      refine z_aload_n (pc := 108) dX7_readSheet_108 rfl ?_
      refine k_cVv (pc := 109) (av := []) zc7 rfl dX7_readSheet_109 lk_X7_142 rfl (by decide) (by decide) (by decide) rfl rfl h (fun f110 h => ?_)
      exact k_vret (pc := 112) hX dX7_readSheet_112 rfl h
    · replace h := h.2 c_64
      refine z_aload_n (pc := 67) dX7_readSheet_67 rfl ?_
      refine z_iconst (pc := 68) (v := 0) dX7_readSheet_68 ic_0 ?_
      refine z_aload_n (pc := 69) dX7_readSheet_69 rfl ?_
      refine k_getr (pc := 70) (j := 6) zc7 dX7_readSheet_70 fl_X7_22 (by decide) rfl (by decide) rfl (k2 := 57) rfl ?_
      refine z_iconst (pc := 73) (v := 1) dX7_readSheet_73 ic_1 ?_
      refine k_iald (pc := 74) (j := 1) (v := (f 57 1)) dX7_readSheet_74 (by decide) rfl (by unfold vp_in; decide) (by decide) rfl ?_
      refine z_iconst (pc := 75) (v := 1) dX7_readSheet_75 ic_1 ?_
      refine z_isub (pc := 76) dX7_readSheet_76 ?_
      refine k_cVi (pc := 77) (av := [.int 0, .int ((f 57 1) - 1)]) zc7 rfl dX7_readSheet_77 lk_X7_138 rfl (by decide) (by decide) (by decide) rfl rfl h (fun r111 f111 h => ?_)
      refine z_istore_n (pc := 80) (lv' := [(2, .int r111), (0, .ref 52), (1, .int x1)]) dX7_readSheet_80 (Nat.le_of_ble_eq_true rfl) rfl ?_
      refine z_aload_n (pc := 81) dX7_readSheet_81 rfl ?_
      refine k_getr (pc := 82) (j := 6) zc7 dX7_readSheet_82 fl_X7_22 (by decide) rfl (by decide) rfl (k2 := 57) rfl ?_
      refine z_bipush (pc := 85) (v := 28) dX7_readSheet_85 bi_28 ?_
      refine z_iload_n (pc := 87) dX7_readSheet_87 rfl ?_
      refine z_iadd (pc := 88) dX7_readSheet_88 ?_
      refine z_aload_n (pc := 89) dX7_readSheet_89 rfl ?_
      refine k_geti (pc := 90) (j := 17) zc7 dX7_readSheet_90 fl_X7_99 (by decide) rfl (by decide) rfl (v := (f111 52 17)) rfl ?_
      suffices hm113 : Z X mX7_readSheet 101 [(2, .int r111), (0, .ref 52), (1, .int x1)] [.int (if (f111 52 17) = 0 then r111 else 0), .int (28 + x1), .ref 57] (zC f111) by
        refine z_if_ne (pc := 93) (t := 100) dX7_readSheet_93 (by decide) (fun c_93 => ?_) (fun c_93 => ?_)
        · rw [if_neg c_93] at hm113
          refine z_iconst (pc := 100) (v := 0) dX7_readSheet_100 ic_0 ?_
          exact hm113
        · rw [if_pos c_93] at hm113
          refine z_iload_n (pc := 96) dX7_readSheet_96 rfl ?_
          refine z_goto (pc := 97) (t := 101) dX7_readSheet_97 (by decide) ?_
          exact hm113
      refine z_name (fun z112 e_z112 => ?_)
      replace h := h z112 e_z112
      refine k_iast (pc := 101) (j := (Int32.toNatClampNeg (28 + x1))) dX7_readSheet_101 (by decide) rfl h.1 rfl ?_
      replace h := h.2
      refine z_iinc (pc := 102) (v := (x1 + 1)) (lv' := [(1, .int (x1 + 1)), (2, .int r111), (0, .ref 52)]) dX7_readSheet_102 rfl (congrArg (fun z => x1 + z) ic_1) (Nat.le_of_ble_eq_true rfl) rfl ?_
      refine z_goto (pc := 105) (t := 50) dX7_readSheet_105 (by decide) ?_
      exact z_sub [2, 0] rfl h
set_option maxRecDepth 20000 in
theorem w_X3_sortTold {f : zF} {K : Int32 → zF → Prop}  (h : ci mX5_isWord [.ref 4, .ref (1000 + 2)] f (fun r1 f1 => ((r1 = 0 → ci mX5_isWord [.ref 4, .ref (1000 + 3)] f1 (fun r2 f2 => ((r2 = 0 → ci mX5_isWord [.ref 4, .ref (1000 + 4)] f2 (fun r3 f3 => ((r3 = 0 → ci mX5_isWord [.ref 4, .ref (1000 + 5)] f3 (fun r4 f4 => ((r4 = 0 → ci mX5_isWord [.ref 4, .ref (1000 + 6)] f4 (fun r5 f5 => ((r5 = 0 → K 0 f5) ∧ (¬ r5 = 0 → K 5 f5)))) ∧ (¬ r4 = 0 → K 4 f4)))) ∧ (¬ r3 = 0 → K 3 f3)))) ∧ (¬ r2 = 0 → K 2 f2)))) ∧ (¬ r1 = 0 → K 1 f1)))) : ci mX3_sortTold [.ref 3] f K := by
  refine ci_of (by decide) (Nat.le_of_ble_eq_true rfl) (fun X hX => ?_)
  refine z_aload_n (pc := 0) dX3_sortTold_0 rfl ?_
  refine k_getr (pc := 1) (j := 0) zc3 dX3_sortTold_1 fl_X3_12 (by decide) rfl (by decide) rfl (k2 := 4) rfl ?_
  refine z_ldcS (pc := 4) dX3_sortTold_4 co_X3_87 ?_
  refine k_cVi (pc := 6) (av := [.ref (1000 + 2)]) zc5 rfl dX3_sortTold_6 lk_X3_67 rfl (by decide) (by decide) (by decide) rfl rfl h (fun r1 f1 h => ?_)
  refine z_if_eq (pc := 9) (t := 16) dX3_sortTold_9 (by decide) (fun c_9 => ?_) (fun c_9 => ?_)
  · replace h := h.1 c_9
    refine z_aload_n (pc := 16) dX3_sortTold_16 rfl ?_
    refine k_getr (pc := 17) (j := 0) zc3 dX3_sortTold_17 fl_X3_12 (by decide) rfl (by decide) rfl (k2 := 4) rfl ?_
    refine z_ldcS (pc := 20) dX3_sortTold_20 co_X3_89 ?_
    refine k_cVi (pc := 22) (av := [.ref (1000 + 3)]) zc5 rfl dX3_sortTold_22 lk_X3_67 rfl (by decide) (by decide) (by decide) rfl rfl h (fun r2 f2 h => ?_)
    refine z_if_eq (pc := 25) (t := 32) dX3_sortTold_25 (by decide) (fun c_25 => ?_) (fun c_25 => ?_)
    · replace h := h.1 c_25
      refine z_aload_n (pc := 32) dX3_sortTold_32 rfl ?_
      refine k_getr (pc := 33) (j := 0) zc3 dX3_sortTold_33 fl_X3_12 (by decide) rfl (by decide) rfl (k2 := 4) rfl ?_
      refine z_ldcS (pc := 36) dX3_sortTold_36 co_X3_91 ?_
      refine k_cVi (pc := 38) (av := [.ref (1000 + 4)]) zc5 rfl dX3_sortTold_38 lk_X3_67 rfl (by decide) (by decide) (by decide) rfl rfl h (fun r3 f3 h => ?_)
      refine z_if_eq (pc := 41) (t := 48) dX3_sortTold_41 (by decide) (fun c_41 => ?_) (fun c_41 => ?_)
      · replace h := h.1 c_41
        refine z_aload_n (pc := 48) dX3_sortTold_48 rfl ?_
        refine k_getr (pc := 49) (j := 0) zc3 dX3_sortTold_49 fl_X3_12 (by decide) rfl (by decide) rfl (k2 := 4) rfl ?_
        refine z_ldcS (pc := 52) dX3_sortTold_52 co_X3_93 ?_
        refine k_cVi (pc := 54) (av := [.ref (1000 + 5)]) zc5 rfl dX3_sortTold_54 lk_X3_67 rfl (by decide) (by decide) (by decide) rfl rfl h (fun r4 f4 h => ?_)
        refine z_if_eq (pc := 57) (t := 64) dX3_sortTold_57 (by decide) (fun c_57 => ?_) (fun c_57 => ?_)
        · replace h := h.1 c_57
          refine z_aload_n (pc := 64) dX3_sortTold_64 rfl ?_
          refine k_getr (pc := 65) (j := 0) zc3 dX3_sortTold_65 fl_X3_12 (by decide) rfl (by decide) rfl (k2 := 4) rfl ?_
          refine z_ldcS (pc := 68) dX3_sortTold_68 co_X3_95 ?_
          refine k_cVi (pc := 70) (av := [.ref (1000 + 6)]) zc5 rfl dX3_sortTold_70 lk_X3_67 rfl (by decide) (by decide) (by decide) rfl rfl h (fun r5 f5 h => ?_)
          refine z_if_eq (pc := 73) (t := 80) dX3_sortTold_73 (by decide) (fun c_73 => ?_) (fun c_73 => ?_)
          · replace h := h.1 c_73
            refine z_iconst (pc := 80) (v := 0) dX3_sortTold_80 ic_0 ?_
            exact k_iret (pc := 81) hX dX3_sortTold_81 rfl rfl h
          · replace h := h.2 c_73
            refine z_iconst (pc := 76) (v := 5) dX3_sortTold_76 ic_5 ?_
            refine z_goto (pc := 77) (t := 81) dX3_sortTold_77 (by decide) ?_
            exact k_iret (pc := 81) hX dX3_sortTold_81 rfl rfl h
        · replace h := h.2 c_57
          refine z_iconst (pc := 60) (v := 4) dX3_sortTold_60 ic_4 ?_
          refine z_goto (pc := 61) (t := 81) dX3_sortTold_61 (by decide) ?_
          exact k_iret (pc := 81) hX dX3_sortTold_81 rfl rfl h
      · replace h := h.2 c_41
        refine z_iconst (pc := 44) (v := 3) dX3_sortTold_44 ic_3 ?_
        refine z_goto (pc := 45) (t := 81) dX3_sortTold_45 (by decide) ?_
        exact k_iret (pc := 81) hX dX3_sortTold_81 rfl rfl h
    · replace h := h.2 c_25
      refine z_iconst (pc := 28) (v := 2) dX3_sortTold_28 ic_2 ?_
      refine z_goto (pc := 29) (t := 81) dX3_sortTold_29 (by decide) ?_
      exact k_iret (pc := 81) hX dX3_sortTold_81 rfl rfl h
  · replace h := h.2 c_9
    refine z_iconst (pc := 12) (v := 1) dX3_sortTold_12 ic_1 ?_
    refine z_goto (pc := 13) (t := 81) dX3_sortTold_13 (by decide) ?_
    exact k_iret (pc := 81) hX dX3_sortTold_81 rfl rfl h
set_option maxRecDepth 20000 in
theorem w_X3_takesWord {f : zF} {K : Int32 → zF → Prop} {w : Nat} (hw : w < 8) (h : ci mX5_isWord [.ref 4, .ref (1000 + w)] f (fun r1 f1 => ((¬ r1 = 0 → cv mX5_advance [.ref 4] f1 (fun f2 => K 1 f2)) ∧ (r1 = 0 → ci mX3_fails [.ref 3, .int 1] f1 (fun r3 f3 => (narrow .boolean (.int r3) = .int r3 ∧ K r3 f3)))))) : ci mX3_takesWord [.ref 3, .ref (1000 + w)] f K := by
  refine ci_of (by decide) (Nat.le_of_ble_eq_true rfl) (fun X hX => ?_)
  refine z_aload_n (pc := 0) dX3_takesWord_0 rfl ?_
  refine k_getr (pc := 1) (j := 0) zc3 dX3_takesWord_1 fl_X3_12 (by decide) rfl (by decide) rfl (k2 := 4) rfl ?_
  refine z_aload_n (pc := 4) dX3_takesWord_4 rfl ?_
  refine k_cVi (pc := 5) (av := [.ref (1000 + w)]) zc5 rfl dX3_takesWord_5 lk_X3_67 rfl (by decide) (by decide) (by decide) rfl rfl h (fun r1 f1 h => ?_)
  refine z_if_ne (pc := 8) (t := 17) dX3_takesWord_8 (by decide) (fun c_8 => ?_) (fun c_8 => ?_)
  · replace h := h.1 c_8
    refine z_aload_n (pc := 17) dX3_takesWord_17 rfl ?_
    refine k_getr (pc := 18) (j := 0) zc3 dX3_takesWord_18 fl_X3_12 (by decide) rfl (by decide) rfl (k2 := 4) rfl ?_
    refine k_cVv (pc := 21) (av := []) zc5 rfl dX3_takesWord_21 lk_X3_80 rfl (by decide) (by decide) (by decide) rfl rfl h (fun f2 h => ?_)
    refine z_iconst (pc := 24) (v := 1) dX3_takesWord_24 ic_1 ?_
    exact k_iret (pc := 25) hX dX3_takesWord_25 rfl rfl h
  · replace h := h.2 c_8
    refine z_aload_n (pc := 11) dX3_takesWord_11 rfl ?_
    refine z_iconst (pc := 12) (v := 1) dX3_takesWord_12 ic_1 ?_
    refine k_cVi (pc := 13) (av := [.int 1]) zc3 rfl dX3_takesWord_13 lk_X3_73 rfl (by decide) (by decide) (by decide) rfl rfl h (fun r3 f3 h => ?_)
    exact k_iret (pc := 16) hX dX3_takesWord_16 rfl h.1 h.2
set_option maxRecDepth 20000 in
theorem w_X6_anew {f : zF} {K : Int32 → zF → Prop} {p1 : Int32} (h : ∀ X, kR X (zRi K) → cq mX6_rowOf [.ref 0, .int p1] f (fun r1 f1 => (r1 = none → ci mX6_refusalOfLetters [.ref 0, .null] f1 (fun r2 f2 => K r2 f2)) ∧ (∀ k1, r1 = some k1 → (isRow k1 ∧ ci mX6_refusalOfLetters [.ref 0, .ref k1] f1 (fun r3 f3 => ((r3 = 0 → Z X mX6_anew 28 [(0, .ref 0), (1, .int p1), (2, .ref k1), (3, .int r3), (4, .int 0), (5, .int 0)] [] (zC f3)) ∧ (¬ r3 = 0 → K r3 f3))))))) : ci mX6_anew [.ref 0, .int p1] f K := by
  refine ci_of (by decide) (Nat.le_of_ble_eq_true rfl) (fun X hX => ?_)
  replace h := h X hX
  refine z_aload_n (pc := 0) dX6_anew_0 rfl ?_
  refine z_iload_n (pc := 1) dX6_anew_1 rfl ?_
  refine k_cVq (pc := 2) (av := [.int p1]) zc6 rfl dX6_anew_2 lk_X6_48 rfl (by decide) (by decide) (by decide) rfl rfl h (fun r1 f1 h => ?_)
  rcases r1 with _ | k1
  · replace h := h.1 rfl
    refine z_astore_nN (pc := 5) (lv' := [(2, .null), (0, .ref 0), (1, .int p1)]) dX6_anew_5 (Nat.le_of_ble_eq_true rfl) rfl ?_
    refine z_aload_n (pc := 6) dX6_anew_6 rfl ?_
    refine z_aload_nN (pc := 7) dX6_anew_7 rfl ?_
    refine k_cVi (pc := 8) (av := [.null]) zc6 rfl dX6_anew_8 lk_X6_193 rfl (by decide) (by decide) (by decide) rfl rfl h (fun r2 f2 h => ?_)
    refine z_istore_n (pc := 11) (lv' := [(3, .int r2), (2, .null), (0, .ref 0), (1, .int p1)]) dX6_anew_11 (Nat.le_of_ble_eq_true rfl) rfl ?_
    refine z_aload_nN (pc := 12) dX6_anew_12 rfl ?_
    refine z_ifnullN (pc := 13) (t := 20) dX6_anew_13 (by decide) ?_
    refine z_iload_n (pc := 20) dX6_anew_20 rfl ?_
    exact k_iret (pc := 21) hX dX6_anew_21 rfl rfl h
  · replace h := h.2 k1 rfl
    have hk1 := h.1
    replace h := h.2
    refine z_astore_n (pc := 5) (lv' := [(2, .ref k1), (0, .ref 0), (1, .int p1)]) dX6_anew_5 (Nat.le_of_ble_eq_true rfl) rfl ?_
    refine z_aload_n (pc := 6) dX6_anew_6 rfl ?_
    refine z_aload_n (pc := 7) dX6_anew_7 rfl ?_
    refine k_cVi (pc := 8) (av := [.ref k1]) zc6 rfl dX6_anew_8 lk_X6_193 rfl (by decide) (by decide) (by decide) rfl rfl h (fun r3 f3 h => ?_)
    refine z_istore_n (pc := 11) (lv' := [(3, .int r3), (2, .ref k1), (0, .ref 0), (1, .int p1)]) dX6_anew_11 (Nat.le_of_ble_eq_true rfl) rfl ?_
    refine z_aload_n (pc := 12) dX6_anew_12 rfl ?_
    refine z_ifnull (pc := 13) dX6_anew_13 ?_
    refine z_iload_n (pc := 16) dX6_anew_16 rfl ?_
    refine z_if_eq (pc := 17) (t := 22) dX6_anew_17 (by decide) (fun c_17 => ?_) (fun c_17 => ?_)
    · replace h := h.1 c_17
      refine z_iconst (pc := 22) (v := 0) dX6_anew_22 ic_0 ?_
      refine z_istore (pc := 23) (lv' := [(4, .int 0), (3, .int r3), (2, .ref k1), (0, .ref 0), (1, .int p1)]) dX6_anew_23 (Nat.le_of_ble_eq_true rfl) rfl ?_
      refine z_iconst (pc := 25) (v := 0) dX6_anew_25 ic_0 ?_
      refine z_istore (pc := 26) (lv' := [(5, .int 0), (4, .int 0), (3, .int r3), (2, .ref k1), (0, .ref 0), (1, .int p1)]) dX6_anew_26 (Nat.le_of_ble_eq_true rfl) rfl ?_
      exact z_sub [4, 5, 3, 2, 1, 0] rfl h
    · replace h := h.2 c_17
      refine z_iload_n (pc := 20) dX6_anew_20 rfl ?_
      exact k_iret (pc := 21) hX dX6_anew_21 rfl rfl h
set_option maxRecDepth 20000 in
theorem l_X6_anew_28 {X : zX} {f : zF} {K : Int32 → zF → Prop} {k1 : Nat} (hk1 : isRow k1) {x1 x3 x4 x5 : Int32}  (hX : kR X (zRi K)) (h : (((f 12 2) ≤ x5 → ci mX6_unfound [.ref 0, .int x4] f (fun r104 f104 => K r104 f104)) ∧ (¬ (f 12 2) ≤ x5 → ci mX4_itemAt [.ref k1, .int x5] f (fun r105 f105 => ci mX2_fewestAnew [.ref 12, .int x5, .int r105] f105 (fun r106 f106 => ((¬ r106 = (-1000000) → Z X mX6_anew 28 [(0, .ref 0), (1, .int x1), (2, .ref k1), (3, .int x3), (4, .int (x4 + r106)), (5, .int (x5 + 1))] [] (zC f106)) ∧ (r106 = (-1000000) → ci mX6_unfound [.ref 0, .int (-1000000)] f106 (fun r107 f107 => K r107 f107)))))))) : Z X mX6_anew 28 [(0, .ref 0), (1, .int x1), (2, .ref k1), (3, .int x3), (4, .int x4), (5, .int x5)] [] (zC f) := by
  refine z_iload (pc := 28) dX6_anew_28 rfl ?_
  refine z_aload_n (pc := 30) dX6_anew_30 rfl ?_
  refine k_getr (pc := 31) (j := 3) zc6 dX6_anew_31 fl_X6_29 (by decide) rfl (by decide) rfl (k2 := 12) rfl ?_
  refine k_geti (pc := 34) (j := 2) zc2 dX6_anew_34 fl_X6_121 (by decide) rfl (by decide) rfl (v := (f 12 2)) rfl ?_
  refine z_icmp_ge (pc := 37) (t := 84) dX6_anew_37 (by decide) (fun c_37 => ?_) (fun c_37 => ?_)
  · replace h := h.1 c_37
    refine z_aload_n (pc := 84) dX6_anew_84 rfl ?_
    refine z_iload (pc := 85) dX6_anew_85 rfl ?_
    refine k_cVi (pc := 87) (av := [.int x4]) zc6 rfl dX6_anew_87 lk_X6_61 rfl (by decide) (by decide) (by decide) rfl rfl h (fun r104 f104 h => ?_)
    exact k_iret (pc := 90) hX dX6_anew_90 rfl rfl h
  · replace h := h.2 c_37
    refine z_aload_n (pc := 40) dX6_anew_40 rfl ?_
    refine k_getr (pc := 41) (j := 3) zc6 dX6_anew_41 fl_X6_29 (by decide) rfl (by decide) rfl (k2 := 12) rfl ?_
    refine z_iload (pc := 44) dX6_anew_44 rfl ?_
    refine z_aload_n (pc := 46) dX6_anew_46 rfl ?_
    refine z_iload (pc := 47) dX6_anew_47 rfl ?_
    refine k_cVi (pc := 49) (av := [.int x5]) zc4 rfl dX6_anew_49 lk_X6_75 rfl (by decide) (by decide) (rw_lt hk1) (rw_sh hk1) rfl h (fun r105 f105 h => ?_)
    refine k_cVi (pc := 52) (av := [.int x5, .int r105]) zc2 rfl dX6_anew_52 lk_X6_205 rfl (by decide) (by decide) (by decide) rfl rfl h (fun r106 f106 h => ?_)
    refine z_istore (pc := 55) (lv' := [(6, .int r106), (0, .ref 0), (1, .int x1), (2, .ref k1), (3, .int x3), (4, .int x4), (5, .int x5)]) dX6_anew_55 (Nat.le_of_ble_eq_true rfl) rfl ?_
    refine z_iload (pc := 57) dX6_anew_57 rfl ?_
    refine z_ldc (pc := 59) (v := -1000000) dX6_anew_59 co_X6_208 ?_
    refine z_icmp_ne (pc := 61) (t := 71) dX6_anew_61 (by decide) (fun c_61 => ?_) (fun c_61 => ?_)
    · replace h := h.1 c_61
      refine z_iload (pc := 71) dX6_anew_71 rfl ?_
      refine z_iload (pc := 73) dX6_anew_73 rfl ?_
      refine z_iadd (pc := 75) dX6_anew_75 ?_
      refine z_istore (pc := 76) (lv' := [(4, .int (x4 + r106)), (6, .int r106), (0, .ref 0), (1, .int x1), (2, .ref k1), (3, .int x3), (5, .int x5)]) dX6_anew_76 (Nat.le_of_ble_eq_true rfl) rfl ?_
      refine z_iinc (pc := 78) (v := (x5 + 1)) (lv' := [(5, .int (x5 + 1)), (4, .int (x4 + r106)), (6, .int r106), (0, .ref 0), (1, .int x1), (2, .ref k1), (3, .int x3)]) dX6_anew_78 rfl (congrArg (fun z => x5 + z) ic_1) (Nat.le_of_ble_eq_true rfl) rfl ?_
      refine z_goto (pc := 81) (t := 28) dX6_anew_81 (by decide) ?_
      exact z_sub [3, 4, 5, 6, 1, 0] rfl h
    · replace h := h.2 c_61
      refine z_aload_n (pc := 64) dX6_anew_64 rfl ?_
      refine z_ldc (pc := 65) (v := -1000000) dX6_anew_65 co_X6_208 ?_
      refine k_cVi (pc := 67) (av := [.int (-1000000)]) zc6 rfl dX6_anew_67 lk_X6_61 rfl (by decide) (by decide) (by decide) rfl rfl h (fun r107 f107 h => ?_)
      exact k_iret (pc := 70) hX dX6_anew_70 rfl rfl h
set_option maxRecDepth 20000 in
theorem w_X6_ask {f : zF} {K : Int32 → zF → Prop} {p1 : Int32} {p2 : Int32} (h : ci mX2_hasLetter [.ref 12, .int p1] f (fun r1 f1 => ((r1 = 0 → K (-1000001) f1) ∧ (¬ r1 = 0 → ((p2 < 0 → K (-1000001) f1) ∧ (¬ p2 < 0 → ((p2 ≤ 1 → ci mX1_answer [.ref 22, .ref 12, .int p1, .int p2] f1 (fun r2 f2 => K r2 f2)) ∧ (¬ p2 ≤ 1 → K (-1000001) f1)))))))) : ci mX6_ask [.ref 0, .int p1, .int p2] f K := by
  refine ci_of (by decide) (Nat.le_of_ble_eq_true rfl) (fun X hX => ?_)
  refine z_aload_n (pc := 0) dX6_ask_0 rfl ?_
  refine k_getr (pc := 1) (j := 3) zc6 dX6_ask_1 fl_X6_29 (by decide) rfl (by decide) rfl (k2 := 12) rfl ?_
  refine z_iload_n (pc := 4) dX6_ask_4 rfl ?_
  refine k_cVi (pc := 5) (av := [.int p1]) zc2 rfl dX6_ask_5 lk_X6_130 rfl (by decide) (by decide) (by decide) rfl rfl h (fun r1 f1 h => ?_)
  refine z_if_eq (pc := 8) (t := 20) dX6_ask_8 (by decide) (fun c_8 => ?_) (fun c_8 => ?_)
  · replace h := h.1 c_8
    refine z_ldc (pc := 20) (v := -1000001) dX6_ask_20 co_X6_52 ?_
    exact k_iret (pc := 22) hX dX6_ask_22 rfl rfl h
  · replace h := h.2 c_8
    refine z_iload_n (pc := 11) dX6_ask_11 rfl ?_
    refine z_if_lt (pc := 12) (t := 20) dX6_ask_12 (by decide) (fun c_12 => ?_) (fun c_12 => ?_)
    · replace h := h.1 c_12
      refine z_ldc (pc := 20) (v := -1000001) dX6_ask_20 co_X6_52 ?_
      exact k_iret (pc := 22) hX dX6_ask_22 rfl rfl h
    · replace h := h.2 c_12
      refine z_iload_n (pc := 15) dX6_ask_15 rfl ?_
      refine z_iconst (pc := 16) (v := 1) dX6_ask_16 ic_1 ?_
      refine z_icmp_le (pc := 17) (t := 23) dX6_ask_17 (by decide) (fun c_17 => ?_) (fun c_17 => ?_)
      · replace h := h.1 c_17
        refine z_aload_n (pc := 23) dX6_ask_23 rfl ?_
        refine k_getr (pc := 24) (j := 5) zc6 dX6_ask_24 fl_X6_43 (by decide) rfl (by decide) rfl (k2 := 22) rfl ?_
        refine z_aload_n (pc := 27) dX6_ask_27 rfl ?_
        refine k_getr (pc := 28) (j := 3) zc6 dX6_ask_28 fl_X6_29 (by decide) rfl (by decide) rfl (k2 := 12) rfl ?_
        refine z_iload_n (pc := 31) dX6_ask_31 rfl ?_
        refine z_iload_n (pc := 32) dX6_ask_32 rfl ?_
        refine k_cVi (pc := 33) (av := [.ref 12, .int p1, .int p2]) zc1 rfl dX6_ask_33 lk_X6_235 rfl (by decide) (by decide) (by decide) rfl rfl h (fun r2 f2 h => ?_)
        exact k_iret (pc := 36) hX dX6_ask_36 rfl rfl h
      · replace h := h.2 c_17
        refine z_ldc (pc := 20) (v := -1000001) dX6_ask_20 co_X6_52 ?_
        exact k_iret (pc := 22) hX dX6_ask_22 rfl rfl h
set_option maxRecDepth 20000 in
theorem w_X6_behind {f : zF} {K : Int32 → zF → Prop} {p1 : Int32} {p2 : Int32} (h : ci mX2_isThere [.ref 12] f (fun r1 f1 => ((r1 = 0 → cq mX6_rowOf [.ref 0, .int p1] f1 (fun r2 f2 => (r2 = none → ci mX6_refusalOfLetters [.ref 0, .null] f2 (fun r3 f3 => K r3 f3)) ∧ (∀ k2, r2 = some k2 → (isRow k2 ∧ ci mX6_refusalOfLetters [.ref 0, .ref k2] f2 (fun r4 f4 => ((r4 = 0 → ci mX4_itemAt [.ref k2, .int p2] f4 (fun r5 f5 => ci mX2_behindFor [.ref 12, .int p2, .int r5] f5 (fun r6 f6 => ci mX6_unfound [.ref 0, .int r6] f6 (fun r7 f7 => K r7 f7)))) ∧ (¬ r4 = 0 → K r4 f4))))))) ∧ (¬ r1 = 0 → ci mX2_hasPlace [.ref 12, .int 0, .int p2] f1 (fun r8 f8 => ((¬ r8 = 0 → cq mX6_rowOf [.ref 0, .int p1] f8 (fun r9 f9 => (r9 = none → ci mX6_refusalOfLetters [.ref 0, .null] f9 (fun r10 f10 => K r10 f10)) ∧ (∀ k9, r9 = some k9 → (isRow k9 ∧ ci mX6_refusalOfLetters [.ref 0, .ref k9] f9 (fun r11 f11 => ((r11 = 0 → ci mX4_itemAt [.ref k9, .int p2] f11 (fun r12 f12 => ci mX2_behindFor [.ref 12, .int p2, .int r12] f12 (fun r13 f13 => ci mX6_unfound [.ref 0, .int r13] f13 (fun r14 f14 => K r14 f14)))) ∧ (¬ r11 = 0 → K r11 f11))))))) ∧ (r8 = 0 → K (-1000001) f8))))))) : ci mX6_behind [.ref 0, .int p1, .int p2] f K := by
  refine ci_of (by decide) (Nat.le_of_ble_eq_true rfl) (fun X hX => ?_)
  refine z_aload_n (pc := 0) dX6_behind_0 rfl ?_
  refine k_getr (pc := 1) (j := 3) zc6 dX6_behind_1 fl_X6_29 (by decide) rfl (by decide) rfl (k2 := 12) rfl ?_
  refine k_cVi (pc := 4) (av := []) zc2 rfl dX6_behind_4 lk_X6_145 rfl (by decide) (by decide) (by decide) rfl rfl h (fun r1 f1 h => ?_)
  refine z_if_eq (pc := 7) (t := 25) dX6_behind_7 (by decide) (fun c_7 => ?_) (fun c_7 => ?_)
  · replace h := h.1 c_7
    refine z_aload_n (pc := 25) dX6_behind_25 rfl ?_
    refine z_iload_n (pc := 26) dX6_behind_26 rfl ?_
    refine k_cVq (pc := 27) (av := [.int p1]) zc6 rfl dX6_behind_27 lk_X6_48 rfl (by decide) (by decide) (by decide) rfl rfl h (fun r2 f2 h => ?_)
    rcases r2 with _ | k2
    · replace h := h.1 rfl
      refine z_astore_nN (pc := 30) (lv' := [(3, .null), (0, .ref 0), (1, .int p1), (2, .int p2)]) dX6_behind_30 (Nat.le_of_ble_eq_true rfl) rfl ?_
      refine z_aload_n (pc := 31) dX6_behind_31 rfl ?_
      refine z_aload_nN (pc := 32) dX6_behind_32 rfl ?_
      refine k_cVi (pc := 33) (av := [.null]) zc6 rfl dX6_behind_33 lk_X6_193 rfl (by decide) (by decide) (by decide) rfl rfl h (fun r3 f3 h => ?_)
      refine z_istore (pc := 36) (lv' := [(4, .int r3), (3, .null), (0, .ref 0), (1, .int p1), (2, .int p2)]) dX6_behind_36 (Nat.le_of_ble_eq_true rfl) rfl ?_
      refine z_aload_nN (pc := 38) dX6_behind_38 rfl ?_
      refine z_ifnullN (pc := 39) (t := 47) dX6_behind_39 (by decide) ?_
      refine z_iload (pc := 47) dX6_behind_47 rfl ?_
      exact k_iret (pc := 49) hX dX6_behind_49 rfl rfl h
    · replace h := h.2 k2 rfl
      have hk2 := h.1
      replace h := h.2
      refine z_astore_n (pc := 30) (lv' := [(3, .ref k2), (0, .ref 0), (1, .int p1), (2, .int p2)]) dX6_behind_30 (Nat.le_of_ble_eq_true rfl) rfl ?_
      refine z_aload_n (pc := 31) dX6_behind_31 rfl ?_
      refine z_aload_n (pc := 32) dX6_behind_32 rfl ?_
      refine k_cVi (pc := 33) (av := [.ref k2]) zc6 rfl dX6_behind_33 lk_X6_193 rfl (by decide) (by decide) (by decide) rfl rfl h (fun r4 f4 h => ?_)
      refine z_istore (pc := 36) (lv' := [(4, .int r4), (3, .ref k2), (0, .ref 0), (1, .int p1), (2, .int p2)]) dX6_behind_36 (Nat.le_of_ble_eq_true rfl) rfl ?_
      refine z_aload_n (pc := 38) dX6_behind_38 rfl ?_
      refine z_ifnull (pc := 39) dX6_behind_39 ?_
      refine z_iload (pc := 42) dX6_behind_42 rfl ?_
      refine z_if_eq (pc := 44) (t := 50) dX6_behind_44 (by decide) (fun c_44 => ?_) (fun c_44 => ?_)
      · replace h := h.1 c_44
        refine z_aload_n (pc := 50) dX6_behind_50 rfl ?_
        refine z_aload_n (pc := 51) dX6_behind_51 rfl ?_
        refine k_getr (pc := 52) (j := 3) zc6 dX6_behind_52 fl_X6_29 (by decide) rfl (by decide) rfl (k2 := 12) rfl ?_
        refine z_iload_n (pc := 55) dX6_behind_55 rfl ?_
        refine z_aload_n (pc := 56) dX6_behind_56 rfl ?_
        refine z_iload_n (pc := 57) dX6_behind_57 rfl ?_
        refine k_cVi (pc := 58) (av := [.int p2]) zc4 rfl dX6_behind_58 lk_X6_75 rfl (by decide) (by decide) (rw_lt hk2) (rw_sh hk2) rfl h (fun r5 f5 h => ?_)
        refine k_cVi (pc := 61) (av := [.int p2, .int r5]) zc2 rfl dX6_behind_61 lk_X6_197 rfl (by decide) (by decide) (by decide) rfl rfl h (fun r6 f6 h => ?_)
        refine k_cVi (pc := 64) (av := [.int r6]) zc6 rfl dX6_behind_64 lk_X6_61 rfl (by decide) (by decide) (by decide) rfl rfl h (fun r7 f7 h => ?_)
        exact k_iret (pc := 67) hX dX6_behind_67 rfl rfl h
      · replace h := h.2 c_44
        refine z_iload (pc := 47) dX6_behind_47 rfl ?_
        exact k_iret (pc := 49) hX dX6_behind_49 rfl rfl h
  · replace h := h.2 c_7
    refine z_aload_n (pc := 10) dX6_behind_10 rfl ?_
    refine k_getr (pc := 11) (j := 3) zc6 dX6_behind_11 fl_X6_29 (by decide) rfl (by decide) rfl (k2 := 12) rfl ?_
    refine z_iconst (pc := 14) (v := 0) dX6_behind_14 ic_0 ?_
    refine z_iload_n (pc := 15) dX6_behind_15 rfl ?_
    refine k_cVi (pc := 16) (av := [.int 0, .int p2]) zc2 rfl dX6_behind_16 lk_X6_127 rfl (by decide) (by decide) (by decide) rfl rfl h (fun r8 f8 h => ?_)
    refine z_if_ne (pc := 19) (t := 25) dX6_behind_19 (by decide) (fun c_19 => ?_) (fun c_19 => ?_)
    · replace h := h.1 c_19
      refine z_aload_n (pc := 25) dX6_behind_25 rfl ?_
      refine z_iload_n (pc := 26) dX6_behind_26 rfl ?_
      refine k_cVq (pc := 27) (av := [.int p1]) zc6 rfl dX6_behind_27 lk_X6_48 rfl (by decide) (by decide) (by decide) rfl rfl h (fun r9 f9 h => ?_)
      rcases r9 with _ | k9
      · replace h := h.1 rfl
        refine z_astore_nN (pc := 30) (lv' := [(3, .null), (0, .ref 0), (1, .int p1), (2, .int p2)]) dX6_behind_30 (Nat.le_of_ble_eq_true rfl) rfl ?_
        refine z_aload_n (pc := 31) dX6_behind_31 rfl ?_
        refine z_aload_nN (pc := 32) dX6_behind_32 rfl ?_
        refine k_cVi (pc := 33) (av := [.null]) zc6 rfl dX6_behind_33 lk_X6_193 rfl (by decide) (by decide) (by decide) rfl rfl h (fun r10 f10 h => ?_)
        refine z_istore (pc := 36) (lv' := [(4, .int r10), (3, .null), (0, .ref 0), (1, .int p1), (2, .int p2)]) dX6_behind_36 (Nat.le_of_ble_eq_true rfl) rfl ?_
        refine z_aload_nN (pc := 38) dX6_behind_38 rfl ?_
        refine z_ifnullN (pc := 39) (t := 47) dX6_behind_39 (by decide) ?_
        refine z_iload (pc := 47) dX6_behind_47 rfl ?_
        exact k_iret (pc := 49) hX dX6_behind_49 rfl rfl h
      · replace h := h.2 k9 rfl
        have hk9 := h.1
        replace h := h.2
        refine z_astore_n (pc := 30) (lv' := [(3, .ref k9), (0, .ref 0), (1, .int p1), (2, .int p2)]) dX6_behind_30 (Nat.le_of_ble_eq_true rfl) rfl ?_
        refine z_aload_n (pc := 31) dX6_behind_31 rfl ?_
        refine z_aload_n (pc := 32) dX6_behind_32 rfl ?_
        refine k_cVi (pc := 33) (av := [.ref k9]) zc6 rfl dX6_behind_33 lk_X6_193 rfl (by decide) (by decide) (by decide) rfl rfl h (fun r11 f11 h => ?_)
        refine z_istore (pc := 36) (lv' := [(4, .int r11), (3, .ref k9), (0, .ref 0), (1, .int p1), (2, .int p2)]) dX6_behind_36 (Nat.le_of_ble_eq_true rfl) rfl ?_
        refine z_aload_n (pc := 38) dX6_behind_38 rfl ?_
        refine z_ifnull (pc := 39) dX6_behind_39 ?_
        refine z_iload (pc := 42) dX6_behind_42 rfl ?_
        refine z_if_eq (pc := 44) (t := 50) dX6_behind_44 (by decide) (fun c_44 => ?_) (fun c_44 => ?_)
        · replace h := h.1 c_44
          refine z_aload_n (pc := 50) dX6_behind_50 rfl ?_
          refine z_aload_n (pc := 51) dX6_behind_51 rfl ?_
          refine k_getr (pc := 52) (j := 3) zc6 dX6_behind_52 fl_X6_29 (by decide) rfl (by decide) rfl (k2 := 12) rfl ?_
          refine z_iload_n (pc := 55) dX6_behind_55 rfl ?_
          refine z_aload_n (pc := 56) dX6_behind_56 rfl ?_
          refine z_iload_n (pc := 57) dX6_behind_57 rfl ?_
          refine k_cVi (pc := 58) (av := [.int p2]) zc4 rfl dX6_behind_58 lk_X6_75 rfl (by decide) (by decide) (rw_lt hk9) (rw_sh hk9) rfl h (fun r12 f12 h => ?_)
          refine k_cVi (pc := 61) (av := [.int p2, .int r12]) zc2 rfl dX6_behind_61 lk_X6_197 rfl (by decide) (by decide) (by decide) rfl rfl h (fun r13 f13 h => ?_)
          refine k_cVi (pc := 64) (av := [.int r13]) zc6 rfl dX6_behind_64 lk_X6_61 rfl (by decide) (by decide) (by decide) rfl rfl h (fun r14 f14 h => ?_)
          exact k_iret (pc := 67) hX dX6_behind_67 rfl rfl h
        · replace h := h.2 c_44
          refine z_iload (pc := 47) dX6_behind_47 rfl ?_
          exact k_iret (pc := 49) hX dX6_behind_49 rfl rfl h
    · replace h := h.2 c_19
      refine z_ldc (pc := 22) (v := -1000001) dX6_behind_22 co_X6_52 ?_
      exact k_iret (pc := 24) hX dX6_behind_24 rfl rfl h
set_option maxRecDepth 20000 in
theorem w_X6_light {f : zF} {K : Int32 → zF → Prop} {p1 : Int32} {p2 : Int32} {p3 : Int32} (h : ci mX2_hasPlace [.ref 12, .int p1, .int p2] f (fun r1 f1 => ((¬ r1 = 0 → ci mX2_shownByLight [.ref 12, .int p1, .int p2] f1 (fun r2 f2 => ((¬ p3 = 0 → ci mX6_answerOfReading [.ref 0, .int r2, .int (p3 - 1)] f2 (fun r3 f3 => K r3 f3)) ∧ (p3 = 0 → K r2 f2)))) ∧ (r1 = 0 → K (-1000001) f1)))) : ci mX6_light [.ref 0, .int p1, .int p2, .int p3] f K := by
  refine ci_of (by decide) (Nat.le_of_ble_eq_true rfl) (fun X hX => ?_)
  refine z_aload_n (pc := 0) dX6_light_0 rfl ?_
  refine k_getr (pc := 1) (j := 3) zc6 dX6_light_1 fl_X6_29 (by decide) rfl (by decide) rfl (k2 := 12) rfl ?_
  refine z_iload_n (pc := 4) dX6_light_4 rfl ?_
  refine z_iload_n (pc := 5) dX6_light_5 rfl ?_
  refine k_cVi (pc := 6) (av := [.int p1, .int p2]) zc2 rfl dX6_light_6 lk_X6_127 rfl (by decide) (by decide) (by decide) rfl rfl h (fun r1 f1 h => ?_)
  refine z_if_ne (pc := 9) (t := 15) dX6_light_9 (by decide) (fun c_9 => ?_) (fun c_9 => ?_)
  · replace h := h.1 c_9
    refine z_aload_n (pc := 15) dX6_light_15 rfl ?_
    refine k_getr (pc := 16) (j := 3) zc6 dX6_light_16 fl_X6_29 (by decide) rfl (by decide) rfl (k2 := 12) rfl ?_
    refine z_iload_n (pc := 19) dX6_light_19 rfl ?_
    refine z_iload_n (pc := 20) dX6_light_20 rfl ?_
    refine k_cVi (pc := 21) (av := [.int p1, .int p2]) zc2 rfl dX6_light_21 lk_X6_177 rfl (by decide) (by decide) (by decide) rfl rfl h (fun r2 f2 h => ?_)
    refine z_istore (pc := 24) (lv' := [(4, .int r2), (0, .ref 0), (1, .int p1), (2, .int p2), (3, .int p3)]) dX6_light_24 (Nat.le_of_ble_eq_true rfl) rfl ?_
    refine z_iload_n (pc := 26) dX6_light_26 rfl ?_
    refine z_if_ne (pc := 27) (t := 35) dX6_light_27 (by decide) (fun c_27 => ?_) (fun c_27 => ?_)
    · replace h := h.1 c_27
      refine z_aload_n (pc := 35) dX6_light_35 rfl ?_
      refine z_iload (pc := 36) dX6_light_36 rfl ?_
      refine z_iload_n (pc := 38) dX6_light_38 rfl ?_
      refine z_iconst (pc := 39) (v := 1) dX6_light_39 ic_1 ?_
      refine z_isub (pc := 40) dX6_light_40 ?_
      refine k_cVi (pc := 41) (av := [.int r2, .int (p3 - 1)]) zc6 rfl dX6_light_41 lk_X6_180 rfl (by decide) (by decide) (by decide) rfl rfl h (fun r3 f3 h => ?_)
      exact k_iret (pc := 44) hX dX6_light_44 rfl rfl h
    · replace h := h.2 c_27
      refine z_iload (pc := 30) dX6_light_30 rfl ?_
      refine z_goto (pc := 32) (t := 44) dX6_light_32 (by decide) ?_
      exact k_iret (pc := 44) hX dX6_light_44 rfl rfl h
  · replace h := h.2 c_9
    refine z_ldc (pc := 12) (v := -1000001) dX6_light_12 co_X6_52 ?_
    exact k_iret (pc := 14) hX dX6_light_14 rfl rfl h
set_option maxRecDepth 20000 in
theorem w_X6_read {f : zF} {K : Int32 → zF → Prop} {p1 : Int32} {p2 : Int32} (h : ci mX2_isThere [.ref 12] f (fun r1 f1 => ((¬ r1 = 0 → ci mX6_areCells [.int p1] f1 (fun r2 f2 => ((r2 = 0 → K (-1000001) f2) ∧ (¬ r2 = 0 → ci mX6_answerOfReading [.ref 0, .int p1, .int p2] f2 (fun r3 f3 => K r3 f3))))) ∧ (r1 = 0 → K (-1000002) f1)))) : ci mX6_read [.ref 0, .int p1, .int p2] f K := by
  refine ci_of (by decide) (Nat.le_of_ble_eq_true rfl) (fun X hX => ?_)
  refine z_aload_n (pc := 0) dX6_read_0 rfl ?_
  refine k_getr (pc := 1) (j := 3) zc6 dX6_read_1 fl_X6_29 (by decide) rfl (by decide) rfl (k2 := 12) rfl ?_
  refine k_cVi (pc := 4) (av := []) zc2 rfl dX6_read_4 lk_X6_145 rfl (by decide) (by decide) (by decide) rfl rfl h (fun r1 f1 h => ?_)
  refine z_if_ne (pc := 7) (t := 13) dX6_read_7 (by decide) (fun c_7 => ?_) (fun c_7 => ?_)
  · replace h := h.1 c_7
    refine z_iload_n (pc := 13) dX6_read_13 rfl ?_
    refine k_cSi (pc := 14) (av := [.int p1]) dX6_read_14 lk_X6_190 rfl (by decide) (by decide) rfl h (fun r2 f2 h => ?_)
    refine z_if_eq (pc := 17) (t := 29) dX6_read_17 (by decide) (fun c_17 => ?_) (fun c_17 => ?_)
    · replace h := h.1 c_17
      refine z_ldc (pc := 29) (v := -1000001) dX6_read_29 co_X6_52 ?_
      exact k_iret (pc := 31) hX dX6_read_31 rfl rfl h
    · replace h := h.2 c_17
      refine z_aload_n (pc := 20) dX6_read_20 rfl ?_
      refine z_iload_n (pc := 21) dX6_read_21 rfl ?_
      refine z_iload_n (pc := 22) dX6_read_22 rfl ?_
      refine k_cVi (pc := 23) (av := [.int p1, .int p2]) zc6 rfl dX6_read_23 lk_X6_180 rfl (by decide) (by decide) (by decide) rfl rfl h (fun r3 f3 h => ?_)
      refine z_goto (pc := 26) (t := 31) dX6_read_26 (by decide) ?_
      exact k_iret (pc := 31) hX dX6_read_31 rfl rfl h
  · replace h := h.2 c_7
    refine z_ldc (pc := 10) (v := -1000002) dX6_read_10 co_X6_148 ?_
    exact k_iret (pc := 12) hX dX6_read_12 rfl rfl h
set_option maxRecDepth 20000 in
theorem w_X6_ways {f : zF} {K : Int32 → zF → Prop} {p1 : Int32} (h : ∀ X, kR X (zRi K) → cq mX6_rowOf [.ref 0, .int p1] f (fun r1 f1 => (r1 = none → ci mX6_refusalOfLetters [.ref 0, .null] f1 (fun r2 f2 => K r2 f2)) ∧ (∀ k1, r1 = some k1 → (isRow k1 ∧ ci mX6_refusalOfLetters [.ref 0, .ref k1] f1 (fun r3 f3 => ((r3 = 0 → Z X mX6_ways 28 [(0, .ref 0), (1, .int p1), (2, .ref k1), (3, .int r3), (4, .int 1), (5, .int 0)] [] (zC f3)) ∧ (¬ r3 = 0 → K r3 f3))))))) : ci mX6_ways [.ref 0, .int p1] f K := by
  refine ci_of (by decide) (Nat.le_of_ble_eq_true rfl) (fun X hX => ?_)
  replace h := h X hX
  refine z_aload_n (pc := 0) dX6_ways_0 rfl ?_
  refine z_iload_n (pc := 1) dX6_ways_1 rfl ?_
  refine k_cVq (pc := 2) (av := [.int p1]) zc6 rfl dX6_ways_2 lk_X6_48 rfl (by decide) (by decide) (by decide) rfl rfl h (fun r1 f1 h => ?_)
  rcases r1 with _ | k1
  · replace h := h.1 rfl
    refine z_astore_nN (pc := 5) (lv' := [(2, .null), (0, .ref 0), (1, .int p1)]) dX6_ways_5 (Nat.le_of_ble_eq_true rfl) rfl ?_
    refine z_aload_n (pc := 6) dX6_ways_6 rfl ?_
    refine z_aload_nN (pc := 7) dX6_ways_7 rfl ?_
    refine k_cVi (pc := 8) (av := [.null]) zc6 rfl dX6_ways_8 lk_X6_193 rfl (by decide) (by decide) (by decide) rfl rfl h (fun r2 f2 h => ?_)
    refine z_istore_n (pc := 11) (lv' := [(3, .int r2), (2, .null), (0, .ref 0), (1, .int p1)]) dX6_ways_11 (Nat.le_of_ble_eq_true rfl) rfl ?_
    refine z_aload_nN (pc := 12) dX6_ways_12 rfl ?_
    refine z_ifnullN (pc := 13) (t := 20) dX6_ways_13 (by decide) ?_
    refine z_iload_n (pc := 20) dX6_ways_20 rfl ?_
    exact k_iret (pc := 21) hX dX6_ways_21 rfl rfl h
  · replace h := h.2 k1 rfl
    have hk1 := h.1
    replace h := h.2
    refine z_astore_n (pc := 5) (lv' := [(2, .ref k1), (0, .ref 0), (1, .int p1)]) dX6_ways_5 (Nat.le_of_ble_eq_true rfl) rfl ?_
    refine z_aload_n (pc := 6) dX6_ways_6 rfl ?_
    refine z_aload_n (pc := 7) dX6_ways_7 rfl ?_
    refine k_cVi (pc := 8) (av := [.ref k1]) zc6 rfl dX6_ways_8 lk_X6_193 rfl (by decide) (by decide) (by decide) rfl rfl h (fun r3 f3 h => ?_)
    refine z_istore_n (pc := 11) (lv' := [(3, .int r3), (2, .ref k1), (0, .ref 0), (1, .int p1)]) dX6_ways_11 (Nat.le_of_ble_eq_true rfl) rfl ?_
    refine z_aload_n (pc := 12) dX6_ways_12 rfl ?_
    refine z_ifnull (pc := 13) dX6_ways_13 ?_
    refine z_iload_n (pc := 16) dX6_ways_16 rfl ?_
    refine z_if_eq (pc := 17) (t := 22) dX6_ways_17 (by decide) (fun c_17 => ?_) (fun c_17 => ?_)
    · replace h := h.1 c_17
      refine z_iconst (pc := 22) (v := 1) dX6_ways_22 ic_1 ?_
      refine z_istore (pc := 23) (lv' := [(4, .int 1), (3, .int r3), (2, .ref k1), (0, .ref 0), (1, .int p1)]) dX6_ways_23 (Nat.le_of_ble_eq_true rfl) rfl ?_
      refine z_iconst (pc := 25) (v := 0) dX6_ways_25 ic_0 ?_
      refine z_istore (pc := 26) (lv' := [(5, .int 0), (4, .int 1), (3, .int r3), (2, .ref k1), (0, .ref 0), (1, .int p1)]) dX6_ways_26 (Nat.le_of_ble_eq_true rfl) rfl ?_
      exact z_sub [4, 5, 3, 2, 1, 0] rfl h
    · replace h := h.2 c_17
      refine z_iload_n (pc := 20) dX6_ways_20 rfl ?_
      exact k_iret (pc := 21) hX dX6_ways_21 rfl rfl h
set_option maxRecDepth 20000 in
theorem l_X6_ways_28 {X : zX} {f : zF} {K : Int32 → zF → Prop} {k1 : Nat} (hk1 : isRow k1) {x1 x3 x4 x5 : Int32}  (hX : kR X (zRi K)) (h : (((f 12 2) ≤ x5 → ci mX6_unfound [.ref 0, .int x4] f (fun r104 f104 => K r104 f104)) ∧ (¬ (f 12 2) ≤ x5 → ci mX4_itemAt [.ref k1, .int x5] f (fun r105 f105 => ci mX2_behindFor [.ref 12, .int x5, .int r105] f105 (fun r106 f106 => ci mJ6_bitCount_0f7a4 [.int r106] f106 (fun r107 f107 => Z X mX6_ways 28 [(0, .ref 0), (1, .int x1), (2, .ref k1), (3, .int x3), (4, .int (x4 * r107)), (5, .int (x5 + 1))] [] (zC f107))))))) : Z X mX6_ways 28 [(0, .ref 0), (1, .int x1), (2, .ref k1), (3, .int x3), (4, .int x4), (5, .int x5)] [] (zC f) := by
  refine z_iload (pc := 28) dX6_ways_28 rfl ?_
  refine z_aload_n (pc := 30) dX6_ways_30 rfl ?_
  refine k_getr (pc := 31) (j := 3) zc6 dX6_ways_31 fl_X6_29 (by decide) rfl (by decide) rfl (k2 := 12) rfl ?_
  refine k_geti (pc := 34) (j := 2) zc2 dX6_ways_34 fl_X6_121 (by decide) rfl (by decide) rfl (v := (f 12 2)) rfl ?_
  refine z_icmp_ge (pc := 37) (t := 69) dX6_ways_37 (by decide) (fun c_37 => ?_) (fun c_37 => ?_)
  · replace h := h.1 c_37
    refine z_aload_n (pc := 69) dX6_ways_69 rfl ?_
    refine z_iload (pc := 70) dX6_ways_70 rfl ?_
    refine k_cVi (pc := 72) (av := [.int x4]) zc6 rfl dX6_ways_72 lk_X6_61 rfl (by decide) (by decide) (by decide) rfl rfl h (fun r104 f104 h => ?_)
    exact k_iret (pc := 75) hX dX6_ways_75 rfl rfl h
  · replace h := h.2 c_37
    refine z_iload (pc := 40) dX6_ways_40 rfl ?_
    refine z_aload_n (pc := 42) dX6_ways_42 rfl ?_
    refine k_getr (pc := 43) (j := 3) zc6 dX6_ways_43 fl_X6_29 (by decide) rfl (by decide) rfl (k2 := 12) rfl ?_
    refine z_iload (pc := 46) dX6_ways_46 rfl ?_
    refine z_aload_n (pc := 48) dX6_ways_48 rfl ?_
    refine z_iload (pc := 49) dX6_ways_49 rfl ?_
    refine k_cVi (pc := 51) (av := [.int x5]) zc4 rfl dX6_ways_51 lk_X6_75 rfl (by decide) (by decide) (rw_lt hk1) (rw_sh hk1) rfl h (fun r105 f105 h => ?_)
    refine k_cVi (pc := 54) (av := [.int x5, .int r105]) zc2 rfl dX6_ways_54 lk_X6_197 rfl (by decide) (by decide) (by decide) rfl rfl h (fun r106 f106 h => ?_)
    refine k_cSi (pc := 57) (av := [.int r106]) dX6_ways_57 lk_X6_200 rfl (by decide) (by decide) rfl h (fun r107 f107 h => ?_)
    refine z_imul (pc := 60) dX6_ways_60 ?_
    refine z_istore (pc := 61) (lv' := [(4, .int (x4 * r107)), (0, .ref 0), (1, .int x1), (2, .ref k1), (3, .int x3), (5, .int x5)]) dX6_ways_61 (Nat.le_of_ble_eq_true rfl) rfl ?_
    refine z_iinc (pc := 63) (v := (x5 + 1)) (lv' := [(5, .int (x5 + 1)), (4, .int (x4 * r107)), (0, .ref 0), (1, .int x1), (2, .ref k1), (3, .int x3)]) dX6_ways_63 rfl (congrArg (fun z => x5 + z) ic_1) (Nat.le_of_ble_eq_true rfl) rfl ?_
    refine z_goto (pc := 66) (t := 28) dX6_ways_66 (by decide) ?_
    exact z_sub [2, 3, 4, 5, 1, 0] rfl h
set_option maxRecDepth 20000 in
theorem w_X7_page {f : zF} {K : Int32 → zF → Prop}  (h : ∀ X, kR X (zRi K) → cv mX7_begin [.ref 52] (zup f 52 0 0) (fun f1 => Z X mX7_page 11 [(0, .ref 52), (1, .int 0)] [] (zC f1))) : ci mX7_page [.ref 52] f K := by
  refine ci_of (by decide) (Nat.le_of_ble_eq_true rfl) (fun X hX => ?_)
  replace h := h X hX
  refine z_aload_n (pc := 0) dX7_page_0 rfl ?_
  refine z_iconst (pc := 1) (v := 0) dX7_page_1 ic_0 ?_
  refine k_puti (pc := 2) (j := 0) zc7 dX7_page_2 fl_X7_41 (by decide) rfl rfl rfl (by decide) rfl ?_
  refine z_aload_n (pc := 5) dX7_page_5 rfl ?_
  refine k_cVv (pc := 6) (av := []) zc7 rfl dX7_page_6 lk_X7_150 rfl (by decide) (by decide) (by decide) rfl rfl h (fun f1 h => ?_)
  refine z_iconst (pc := 9) (v := 0) dX7_page_9 ic_0 ?_
  refine z_istore_n (pc := 10) (lv' := [(1, .int 0), (0, .ref 52)]) dX7_page_10 (Nat.le_of_ble_eq_true rfl) rfl ?_
  exact z_sub [1, 0] rfl h
set_option maxRecDepth 20000 in
theorem l_X7_page_11 {X : zX} {f : zF} {K : Int32 → zF → Prop}  {x1 : Int32}  (hX : kR X (zRi K)) (h : ((37 ≤ x1 → cl mX7_name [.ref 52] f (fun r102 f102 => (∀ z103 : Int32, z103 = (if (lg_cmp r102 7102839) = 0 then 1 else 0) → cv mX7_must [.ref 52, .int z103] f102 (fun f104 => ci mX7_number [.ref 52, .int 0, .int 9] f104 (fun r105 f105 => cv mX7_mustEnd [.ref 52] (zup f105 57 0 r105) (fun f106 => cl mX7_name [.ref 52] f106 (fun r107 f107 => (((lg_cmp r107 119183001281906) = 0 → Z X mX7_page 83 [(0, .ref 52), (1, .int x1)] [] (zC f107)) ∧ (¬ (lg_cmp r107 119183001281906) = 0 → cv mX7_bad [.ref 52, .int 1] f107 (fun f108 => Z X mX7_page 83 [(0, .ref 52), (1, .int x1)] [] (zC f108))))))))))) ∧ (¬ 37 ≤ x1 → (vp_in x1 37 ∧ Z X mX7_page 11 [(0, .ref 52), (1, .int (x1 + 1))] [] (zC (zup f 57 (Int32.toNatClampNeg x1) 0)))))) : Z X mX7_page 11 [(0, .ref 52), (1, .int x1)] [] (zC f) := by
  refine z_iload_n (pc := 11) dX7_page_11 rfl ?_
  refine z_bipush (pc := 12) (v := 37) dX7_page_12 bi_37 ?_
  refine z_icmp_ge (pc := 14) (t := 30) dX7_page_14 (by decide) (fun c_14 => ?_) (fun c_14 => ?_)
  · replace h := h.1 c_14
    refine z_aload_n (pc := 30) dX7_page_30 rfl ?_
    refine z_aload_n (pc := 31) dX7_page_31 rfl ?_
    refine k_cVl (pc := 32) (av := []) zc7 rfl dX7_page_32 lk_X7_130 rfl (by decide) (by decide) (by decide) rfl rfl h (fun r102 f102 h => ?_)
    refine z_ldc2 (pc := 35) (v := 7102839) dX7_page_35 co_X7_153 ?_
    refine z_lcmp (pc := 38) dX7_page_38 ?_
    suffices hm109 : Z X mX7_page 47 [(0, .ref 52), (1, .int x1)] [.int (if (lg_cmp r102 7102839) = 0 then 1 else 0), .ref 52] (zC f102) by
      refine z_if_ne (pc := 39) (t := 46) dX7_page_39 (by decide) (fun c_39 => ?_) (fun c_39 => ?_)
      · rw [if_neg c_39] at hm109
        refine z_iconst (pc := 46) (v := 0) dX7_page_46 ic_0 ?_
        exact hm109
      · rw [if_pos c_39] at hm109
        refine z_iconst (pc := 42) (v := 1) dX7_page_42 ic_1 ?_
        refine z_goto (pc := 43) (t := 47) dX7_page_43 (by decide) ?_
        exact hm109
    refine z_name (fun z103 e_z103 => ?_)
    replace h := h z103 e_z103
    refine k_cVv (pc := 47) (av := [.int z103]) zc7 rfl dX7_page_47 lk_X7_116 rfl (by decide) (by decide) (by decide) rfl rfl h (fun f104 h => ?_)
    refine z_aload_n (pc := 50) dX7_page_50 rfl ?_
    refine k_getr (pc := 51) (j := 6) zc7 dX7_page_51 fl_X7_22 (by decide) rfl (by decide) rfl (k2 := 57) rfl ?_
    refine z_iconst (pc := 54) (v := 0) dX7_page_54 ic_0 ?_
    refine z_aload_n (pc := 55) dX7_page_55 rfl ?_
    refine z_iconst (pc := 56) (v := 0) dX7_page_56 ic_0 ?_
    refine z_bipush (pc := 57) (v := 9) dX7_page_57 bi_9 ?_
    refine k_cVi (pc := 59) (av := [.int 0, .int 9]) zc7 rfl dX7_page_59 lk_X7_138 rfl (by decide) (by decide) (by decide) rfl rfl h (fun r105 f105 h => ?_)
    refine k_iast (pc := 62) (j := 0) dX7_page_62 (by decide) rfl (by unfold vp_in; decide) (by decide) ?_
    refine z_aload_n (pc := 63) dX7_page_63 rfl ?_
    refine k_cVv (pc := 64) (av := []) zc7 rfl dX7_page_64 lk_X7_142 rfl (by decide) (by decide) (by decide) rfl rfl h (fun f106 h => ?_)
    refine z_aload_n (pc := 67) dX7_page_67 rfl ?_
    refine k_cVl (pc := 68) (av := []) zc7 rfl dX7_page_68 lk_X7_130 rfl (by decide) (by decide) (by decide) rfl rfl h (fun r107 f107 h => ?_)
    refine z_ldc2 (pc := 71) (v := 119183001281906) dX7_page_71 co_X7_155 ?_
    refine z_lcmp (pc := 74) dX7_page_74 ?_
    refine z_if_eq (pc := 75) (t := 83) dX7_page_75 (by decide) (fun c_75 => ?_) (fun c_75 => ?_)
    · replace h := h.1 c_75
      exact h
    · replace h := h.2 c_75
      refine z_aload_n (pc := 78) dX7_page_78 rfl ?_
      refine z_iconst (pc := 79) (v := 1) dX7_page_79 ic_1 ?_
      refine k_cVv (pc := 80) (av := [.int 1]) zc7 rfl dX7_page_80 lk_X7_108 rfl (by decide) (by decide) (by decide) rfl rfl h (fun f108 h => ?_)
      exact h
  · replace h := h.2 c_14
    refine z_aload_n (pc := 17) dX7_page_17 rfl ?_
    refine k_getr (pc := 18) (j := 6) zc7 dX7_page_18 fl_X7_22 (by decide) rfl (by decide) rfl (k2 := 57) rfl ?_
    refine z_iload_n (pc := 21) dX7_page_21 rfl ?_
    refine z_iconst (pc := 22) (v := 0) dX7_page_22 ic_0 ?_
    refine k_iast (pc := 23) (j := (Int32.toNatClampNeg x1)) dX7_page_23 (by decide) rfl h.1 rfl ?_
    replace h := h.2
    refine z_iinc (pc := 24) (v := (x1 + 1)) (lv' := [(1, .int (x1 + 1)), (0, .ref 52)]) dX7_page_24 rfl (congrArg (fun z => x1 + z) ic_1) (Nat.le_of_ble_eq_true rfl) rfl ?_
    refine z_goto (pc := 27) (t := 11) dX7_page_27 (by decide) ?_
    exact z_sub [1, 0] rfl h
set_option maxRecDepth 20000 in
theorem l_X7_page_83 {X : zX} {f : zF} {K : Int32 → zF → Prop}  {x1 : Int32}  (hX : kR X (zRi K)) (h : cl mX7_name [.ref 52] f (fun r210 f210 => ((¬ (lg_cmp r210 119183001281906) = 0 → cv mX7_readSheet [.ref 52] f210 (fun f211 => ((¬ (f211 52 17) = 0 → (((f211 52 17) ≤ 0 → Z X mX7_page 155 [(0, .ref 52), (1, .int 0)] [] (zC (zup f211 52 8 0))) ∧ (¬ (f211 52 17) ≤ 0 → K ((-1000100) - (f211 52 18)) (zup f211 52 11 (f211 52 17))))) ∧ ((f211 52 17) = 0 → (((f211 52 14) = 1 → (((f211 52 17) ≤ 0 → Z X mX7_page 155 [(0, .ref 52), (1, .int 0)] [] (zC (zup f211 52 8 0))) ∧ (¬ (f211 52 17) ≤ 0 → K ((-1000100) - (f211 52 18)) (zup f211 52 11 (f211 52 17))))) ∧ (¬ (f211 52 14) = 1 → cv mX7_bad [.ref 52, .int 1] f211 (fun f212 => (((f212 52 17) ≤ 0 → Z X mX7_page 155 [(0, .ref 52), (1, .int 0)] [] (zC (zup f212 52 8 0))) ∧ (¬ (f212 52 17) ≤ 0 → K ((-1000100) - (f212 52 18)) (zup f212 52 11 (f212 52 17))))))))))) ∧ ((lg_cmp r210 119183001281906) = 0 → cv mX7_readLetter [.ref 52] f210 (fun f213 => Z X mX7_page 83 [(0, .ref 52), (1, .int x1)] [] (zC f213)))))) : Z X mX7_page 83 [(0, .ref 52), (1, .int x1)] [] (zC f) := by
  refine z_aload_n (pc := 83) dX7_page_83 rfl ?_
  refine k_cVl (pc := 84) (av := []) zc7 rfl dX7_page_84 lk_X7_130 rfl (by decide) (by decide) (by decide) rfl rfl h (fun r210 f210 h => ?_)
  refine z_ldc2 (pc := 87) (v := 119183001281906) dX7_page_87 co_X7_155 ?_
  refine z_lcmp (pc := 90) dX7_page_90 ?_
  refine z_if_ne (pc := 91) (t := 101) dX7_page_91 (by decide) (fun c_91 => ?_) (fun c_91 => ?_)
  · replace h := h.1 c_91
    refine z_aload_n (pc := 101) dX7_page_101 rfl ?_
    refine k_cVv (pc := 102) (av := []) zc7 rfl dX7_page_102 lk_X7_160 rfl (by decide) (by decide) (by decide) rfl rfl h (fun f211 h => ?_)
    refine z_aload_n (pc := 105) dX7_page_105 rfl ?_
    refine k_geti (pc := 106) (j := 17) zc7 dX7_page_106 fl_X7_99 (by decide) rfl (by decide) rfl (v := (f211 52 17)) rfl ?_
    refine z_if_ne (pc := 109) (t := 125) dX7_page_109 (by decide) (fun c_109 => ?_) (fun c_109 => ?_)
    · replace h := h.1 c_109
      refine z_aload_n (pc := 125) dX7_page_125 rfl ?_
      refine k_geti (pc := 126) (j := 17) zc7 dX7_page_126 fl_X7_99 (by decide) rfl (by decide) rfl (v := (f211 52 17)) rfl ?_
      refine z_if_le (pc := 129) (t := 148) dX7_page_129 (by decide) (fun c_129 => ?_) (fun c_129 => ?_)
      · replace h := h.1 c_129
        refine z_aload_n (pc := 148) dX7_page_148 rfl ?_
        refine z_iconst (pc := 149) (v := 0) dX7_page_149 ic_0 ?_
        refine k_puti (pc := 150) (j := 8) zc7 dX7_page_150 fl_X7_167 (by decide) rfl rfl rfl (by decide) rfl ?_
        refine z_iconst (pc := 153) (v := 0) dX7_page_153 ic_0 ?_
        refine z_istore_n (pc := 154) (lv' := [(1, .int 0), (0, .ref 52)]) dX7_page_154 (Nat.le_of_ble_eq_true rfl) rfl ?_
        exact z_sub [1, 0] rfl h
      · replace h := h.2 c_129
        refine z_aload_n (pc := 132) dX7_page_132 rfl ?_
        refine z_aload_n (pc := 133) dX7_page_133 rfl ?_
        refine k_geti (pc := 134) (j := 17) zc7 dX7_page_134 fl_X7_99 (by decide) rfl (by decide) rfl (v := (f211 52 17)) rfl ?_
        refine k_puti (pc := 137) (j := 11) zc7 dX7_page_137 fl_X7_163 (by decide) rfl rfl rfl (by decide) rfl ?_
        refine z_ldc (pc := 140) (v := -1000100) dX7_page_140 co_X7_166 ?_
        refine z_aload_n (pc := 142) dX7_page_142 rfl ?_
        refine k_geti (pc := 143) (j := 18) zc7 dX7_page_143 fl_X7_105 (by decide) rfl (by decide) rfl (v := (f211 52 18)) rfl ?_
        refine z_isub (pc := 146) dX7_page_146 ?_
        exact k_iret (pc := 147) hX dX7_page_147 rfl rfl h
    · replace h := h.2 c_109
      refine z_aload_n (pc := 112) dX7_page_112 rfl ?_
      refine k_geti (pc := 113) (j := 14) zc7 dX7_page_113 fl_X7_87 (by decide) rfl (by decide) rfl (v := (f211 52 14)) rfl ?_
      refine z_iconst (pc := 116) (v := 1) dX7_page_116 ic_1 ?_
      refine z_icmp_eq (pc := 117) (t := 125) dX7_page_117 (by decide) (fun c_117 => ?_) (fun c_117 => ?_)
      · replace h := h.1 c_117
        refine z_aload_n (pc := 125) dX7_page_125 rfl ?_
        refine k_geti (pc := 126) (j := 17) zc7 dX7_page_126 fl_X7_99 (by decide) rfl (by decide) rfl (v := (f211 52 17)) rfl ?_
        refine z_if_le (pc := 129) (t := 148) dX7_page_129 (by decide) (fun c_129 => ?_) (fun c_129 => ?_)
        · replace h := h.1 c_129
          refine z_aload_n (pc := 148) dX7_page_148 rfl ?_
          refine z_iconst (pc := 149) (v := 0) dX7_page_149 ic_0 ?_
          refine k_puti (pc := 150) (j := 8) zc7 dX7_page_150 fl_X7_167 (by decide) rfl rfl rfl (by decide) rfl ?_
          refine z_iconst (pc := 153) (v := 0) dX7_page_153 ic_0 ?_
          refine z_istore_n (pc := 154) (lv' := [(1, .int 0), (0, .ref 52)]) dX7_page_154 (Nat.le_of_ble_eq_true rfl) rfl ?_
          exact z_sub [1, 0] rfl h
        · replace h := h.2 c_129
          refine z_aload_n (pc := 132) dX7_page_132 rfl ?_
          refine z_aload_n (pc := 133) dX7_page_133 rfl ?_
          refine k_geti (pc := 134) (j := 17) zc7 dX7_page_134 fl_X7_99 (by decide) rfl (by decide) rfl (v := (f211 52 17)) rfl ?_
          refine k_puti (pc := 137) (j := 11) zc7 dX7_page_137 fl_X7_163 (by decide) rfl rfl rfl (by decide) rfl ?_
          refine z_ldc (pc := 140) (v := -1000100) dX7_page_140 co_X7_166 ?_
          refine z_aload_n (pc := 142) dX7_page_142 rfl ?_
          refine k_geti (pc := 143) (j := 18) zc7 dX7_page_143 fl_X7_105 (by decide) rfl (by decide) rfl (v := (f211 52 18)) rfl ?_
          refine z_isub (pc := 146) dX7_page_146 ?_
          exact k_iret (pc := 147) hX dX7_page_147 rfl rfl h
      · replace h := h.2 c_117
        refine z_aload_n (pc := 120) dX7_page_120 rfl ?_
        refine z_iconst (pc := 121) (v := 1) dX7_page_121 ic_1 ?_
        refine k_cVv (pc := 122) (av := [.int 1]) zc7 rfl dX7_page_122 lk_X7_108 rfl (by decide) (by decide) (by decide) rfl rfl h (fun f212 h => ?_)
        refine z_aload_n (pc := 125) dX7_page_125 rfl ?_
        refine k_geti (pc := 126) (j := 17) zc7 dX7_page_126 fl_X7_99 (by decide) rfl (by decide) rfl (v := (f212 52 17)) rfl ?_
        refine z_if_le (pc := 129) (t := 148) dX7_page_129 (by decide) (fun c_129 => ?_) (fun c_129 => ?_)
        · replace h := h.1 c_129
          refine z_aload_n (pc := 148) dX7_page_148 rfl ?_
          refine z_iconst (pc := 149) (v := 0) dX7_page_149 ic_0 ?_
          refine k_puti (pc := 150) (j := 8) zc7 dX7_page_150 fl_X7_167 (by decide) rfl rfl rfl (by decide) rfl ?_
          refine z_iconst (pc := 153) (v := 0) dX7_page_153 ic_0 ?_
          refine z_istore_n (pc := 154) (lv' := [(1, .int 0), (0, .ref 52)]) dX7_page_154 (Nat.le_of_ble_eq_true rfl) rfl ?_
          exact z_sub [1, 0] rfl h
        · replace h := h.2 c_129
          refine z_aload_n (pc := 132) dX7_page_132 rfl ?_
          refine z_aload_n (pc := 133) dX7_page_133 rfl ?_
          refine k_geti (pc := 134) (j := 17) zc7 dX7_page_134 fl_X7_99 (by decide) rfl (by decide) rfl (v := (f212 52 17)) rfl ?_
          refine k_puti (pc := 137) (j := 11) zc7 dX7_page_137 fl_X7_163 (by decide) rfl rfl rfl (by decide) rfl ?_
          refine z_ldc (pc := 140) (v := -1000100) dX7_page_140 co_X7_166 ?_
          refine z_aload_n (pc := 142) dX7_page_142 rfl ?_
          refine k_geti (pc := 143) (j := 18) zc7 dX7_page_143 fl_X7_105 (by decide) rfl (by decide) rfl (v := (f212 52 18)) rfl ?_
          refine z_isub (pc := 146) dX7_page_146 ?_
          exact k_iret (pc := 147) hX dX7_page_147 rfl rfl h
  · replace h := h.2 c_91
    refine z_aload_n (pc := 94) dX7_page_94 rfl ?_
    refine k_cVv (pc := 95) (av := []) zc7 rfl dX7_page_95 lk_X7_157 rfl (by decide) (by decide) (by decide) rfl rfl h (fun f213 h => ?_)
    refine z_goto (pc := 98) (t := 83) dX7_page_98 (by decide) ?_
    exact h
set_option maxRecDepth 20000 in
theorem l_X7_page_155 {X : zX} {f : zF} {K : Int32 → zF → Prop}  {x1 : Int32}  (hX : kR X (zRi K)) (h : ((37 ≤ x1 → K (f 56 2) f) ∧ (¬ 37 ≤ x1 → (vp_in x1 37 ∧ (vp_in x1 37 ∧ Z X mX7_page 155 [(0, .ref 52), (1, .int (x1 + 1))] [] (zC (zup f 56 (Int32.toNatClampNeg x1) (f 57 (Int32.toNatClampNeg x1))))))))) : Z X mX7_page 155 [(0, .ref 52), (1, .int x1)] [] (zC f) := by
  refine z_iload_n (pc := 155) dX7_page_155 rfl ?_
  refine z_bipush (pc := 156) (v := 37) dX7_page_156 bi_37 ?_
  refine z_icmp_ge (pc := 158) (t := 179) dX7_page_158 (by decide) (fun c_158 => ?_) (fun c_158 => ?_)
  · replace h := h.1 c_158
    refine z_aload_n (pc := 179) dX7_page_179 rfl ?_
    refine k_getr (pc := 180) (j := 5) zc7 dX7_page_180 fl_X7_19 (by decide) rfl (by decide) rfl (k2 := 56) rfl ?_
    refine z_iconst (pc := 183) (v := 2) dX7_page_183 ic_2 ?_
    refine k_iald (pc := 184) (j := 2) (v := (f 56 2)) dX7_page_184 (by decide) rfl (by unfold vp_in; decide) (by decide) rfl ?_
    exact k_iret (pc := 185) hX dX7_page_185 rfl rfl h
  · replace h := h.2 c_158
    refine z_aload_n (pc := 161) dX7_page_161 rfl ?_
    refine k_getr (pc := 162) (j := 5) zc7 dX7_page_162 fl_X7_19 (by decide) rfl (by decide) rfl (k2 := 56) rfl ?_
    refine z_iload_n (pc := 165) dX7_page_165 rfl ?_
    refine z_aload_n (pc := 166) dX7_page_166 rfl ?_
    refine k_getr (pc := 167) (j := 6) zc7 dX7_page_167 fl_X7_22 (by decide) rfl (by decide) rfl (k2 := 57) rfl ?_
    refine z_iload_n (pc := 170) dX7_page_170 rfl ?_
    refine k_iald (pc := 171) (j := (Int32.toNatClampNeg x1)) (v := (f 57 (Int32.toNatClampNeg x1))) dX7_page_171 (by decide) rfl h.1 rfl rfl ?_
    replace h := h.2
    refine k_iast (pc := 172) (j := (Int32.toNatClampNeg x1)) dX7_page_172 (by decide) rfl h.1 rfl ?_
    replace h := h.2
    refine z_iinc (pc := 173) (v := (x1 + 1)) (lv' := [(1, .int (x1 + 1)), (0, .ref 52)]) dX7_page_173 rfl (congrArg (fun z => x1 + z) ic_1) (Nat.le_of_ble_eq_true rfl) rfl ?_
    refine z_goto (pc := 176) (t := 155) dX7_page_176 (by decide) ?_
    exact z_sub [1, 0] rfl h
set_option maxRecDepth 20000 in
theorem w_X3_readsLaw {f : zF} {K : Int32 → zF → Prop}  (h : ci mX3_takesWord [.ref 3, .ref (1000 + 0)] f (fun r1 f1 => ((r1 = 0 → K 0 f1) ∧ (¬ r1 = 0 → ci mX3_takesNumber [.ref 3, .int 9] f1 (fun r2 f2 => ((¬ r2 = 0 → ci mX3_takesSign [.ref 3, .int 3] (zup f2 6 0 (f2 3 4)) (fun r3 f3 => (narrow .boolean (.int r3) = .int r3 ∧ K r3 f3))) ∧ (r2 = 0 → K 0 f2))))))) : ci mX3_readsLaw [.ref 3] f K := by
  refine ci_of (by decide) (Nat.le_of_ble_eq_true rfl) (fun X hX => ?_)
  refine z_aload_n (pc := 0) dX3_readsLaw_0 rfl ?_
  refine z_ldcS (pc := 1) dX3_readsLaw_1 co_X3_45 ?_
  refine k_cVi (pc := 3) (av := [.ref (1000 + 0)]) zc3 rfl dX3_readsLaw_3 lk_X3_47 rfl (by decide) (by decide) (by decide) rfl rfl h (fun r1 f1 h => ?_)
  refine z_if_eq (pc := 6) (t := 18) dX3_readsLaw_6 (by decide) (fun c_6 => ?_) (fun c_6 => ?_)
  · replace h := h.1 c_6
    refine z_iconst (pc := 18) (v := 0) dX3_readsLaw_18 ic_0 ?_
    exact k_iret (pc := 19) hX dX3_readsLaw_19 rfl rfl h
  · replace h := h.2 c_6
    refine z_aload_n (pc := 9) dX3_readsLaw_9 rfl ?_
    refine z_bipush (pc := 10) (v := 9) dX3_readsLaw_10 bi_9 ?_
    refine k_cVi (pc := 12) (av := [.int 9]) zc3 rfl dX3_readsLaw_12 lk_X3_51 rfl (by decide) (by decide) (by decide) rfl rfl h (fun r2 f2 h => ?_)
    refine z_if_ne (pc := 15) (t := 20) dX3_readsLaw_15 (by decide) (fun c_15 => ?_) (fun c_15 => ?_)
    · replace h := h.1 c_15
      refine z_aload_n (pc := 20) dX3_readsLaw_20 rfl ?_
      refine k_getr (pc := 21) (j := 1) zc3 dX3_readsLaw_21 fl_X3_21 (by decide) rfl (by decide) rfl (k2 := 6) rfl ?_
      refine z_aload_n (pc := 24) dX3_readsLaw_24 rfl ?_
      refine k_geti (pc := 25) (j := 4) zc3 dX3_readsLaw_25 fl_X3_55 (by decide) rfl (by decide) rfl (v := (f2 3 4)) rfl ?_
      refine k_puti (pc := 28) (j := 0) zc2 dX3_readsLaw_28 fl_X3_59 (by decide) rfl rfl rfl (by decide) rfl ?_
      refine z_aload_n (pc := 31) dX3_readsLaw_31 rfl ?_
      refine z_iconst (pc := 32) (v := 3) dX3_readsLaw_32 ic_3 ?_
      refine k_cVi (pc := 33) (av := [.int 3]) zc3 rfl dX3_readsLaw_33 lk_X3_62 rfl (by decide) (by decide) (by decide) rfl rfl h (fun r3 f3 h => ?_)
      exact k_iret (pc := 36) hX dX3_readsLaw_36 rfl h.1 h.2
    · replace h := h.2 c_15
      refine z_iconst (pc := 18) (v := 0) dX3_readsLaw_18 ic_0 ?_
      exact k_iret (pc := 19) hX dX3_readsLaw_19 rfl rfl h
set_option maxRecDepth 20000 in
theorem w_X3_readsLetter {f : zF} {K : Int32 → zF → Prop}  (h : ci mX3_takesWord [.ref 3, .ref (1000 + 1)] f (fun r1 f1 => ((¬ r1 = 0 → ci mX3_sortTold [.ref 3] f1 (fun r2 f2 => ((¬ r2 = 0 → cv mX5_advance [.ref 4] f2 (fun f3 => ci mX3_takesNumber [.ref 3, .int 511] f3 (fun r4 f4 => ((¬ r4 = 0 → cv mX2_addLetter [.ref 6, .int r2, .int (f4 3 4)] f4 (fun f5 => ci mX3_takesSign [.ref 3, .int 3] f5 (fun r6 f6 => (narrow .boolean (.int r6) = .int r6 ∧ K r6 f6)))) ∧ (r4 = 0 → K 0 f4))))) ∧ (r2 = 0 → ci mX3_fails [.ref 3, .int 1] f2 (fun r7 f7 => (narrow .boolean (.int r7) = .int r7 ∧ K r7 f7)))))) ∧ (r1 = 0 → K 0 f1)))) : ci mX3_readsLetter [.ref 3] f K := by
  refine ci_of (by decide) (Nat.le_of_ble_eq_true rfl) (fun X hX => ?_)
  refine z_aload_n (pc := 0) dX3_readsLetter_0 rfl ?_
  refine z_ldcS (pc := 1) dX3_readsLetter_1 co_X3_65 ?_
  refine k_cVi (pc := 3) (av := [.ref (1000 + 1)]) zc3 rfl dX3_readsLetter_3 lk_X3_47 rfl (by decide) (by decide) (by decide) rfl rfl h (fun r1 f1 h => ?_)
  refine z_if_ne (pc := 6) (t := 11) dX3_readsLetter_6 (by decide) (fun c_6 => ?_) (fun c_6 => ?_)
  · replace h := h.1 c_6
    refine z_aload_n (pc := 11) dX3_readsLetter_11 rfl ?_
    refine k_cVi (pc := 12) (av := []) zc3 rfl dX3_readsLetter_12 lk_X3_76 rfl (by decide) (by decide) (by decide) rfl rfl h (fun r2 f2 h => ?_)
    refine z_istore_n (pc := 15) (lv' := [(1, .int r2), (0, .ref 3)]) dX3_readsLetter_15 (Nat.le_of_ble_eq_true rfl) rfl ?_
    refine z_iload_n (pc := 16) dX3_readsLetter_16 rfl ?_
    refine z_if_ne (pc := 17) (t := 26) dX3_readsLetter_17 (by decide) (fun c_17 => ?_) (fun c_17 => ?_)
    · replace h := h.1 c_17
      refine z_aload_n (pc := 26) dX3_readsLetter_26 rfl ?_
      refine k_getr (pc := 27) (j := 0) zc3 dX3_readsLetter_27 fl_X3_12 (by decide) rfl (by decide) rfl (k2 := 4) rfl ?_
      refine k_cVv (pc := 30) (av := []) zc5 rfl dX3_readsLetter_30 lk_X3_80 rfl (by decide) (by decide) (by decide) rfl rfl h (fun f3 h => ?_)
      refine z_aload_n (pc := 33) dX3_readsLetter_33 rfl ?_
      refine z_sipush (pc := 34) (v := 511) dX3_readsLetter_34 si_511 ?_
      refine k_cVi (pc := 37) (av := [.int 511]) zc3 rfl dX3_readsLetter_37 lk_X3_51 rfl (by decide) (by decide) (by decide) rfl rfl h (fun r4 f4 h => ?_)
      refine z_if_ne (pc := 40) (t := 45) dX3_readsLetter_40 (by decide) (fun c_40 => ?_) (fun c_40 => ?_)
      · replace h := h.1 c_40
        refine z_aload_n (pc := 45) dX3_readsLetter_45 rfl ?_
        refine k_getr (pc := 46) (j := 1) zc3 dX3_readsLetter_46 fl_X3_21 (by decide) rfl (by decide) rfl (k2 := 6) rfl ?_
        refine z_iload_n (pc := 49) dX3_readsLetter_49 rfl ?_
        refine z_aload_n (pc := 50) dX3_readsLetter_50 rfl ?_
        refine k_geti (pc := 51) (j := 4) zc3 dX3_readsLetter_51 fl_X3_55 (by decide) rfl (by decide) rfl (v := (f4 3 4)) rfl ?_
        refine k_cVv (pc := 54) (av := [.int r2, .int (f4 3 4)]) zc2 rfl dX3_readsLetter_54 lk_X3_83 rfl (by decide) (by decide) (by decide) rfl rfl h (fun f5 h => ?_)
        refine z_aload_n (pc := 57) dX3_readsLetter_57 rfl ?_
        refine z_iconst (pc := 58) (v := 3) dX3_readsLetter_58 ic_3 ?_
        refine k_cVi (pc := 59) (av := [.int 3]) zc3 rfl dX3_readsLetter_59 lk_X3_62 rfl (by decide) (by decide) (by decide) rfl rfl h (fun r6 f6 h => ?_)
        exact k_iret (pc := 62) hX dX3_readsLetter_62 rfl h.1 h.2
      · replace h := h.2 c_40
        refine z_iconst (pc := 43) (v := 0) dX3_readsLetter_43 ic_0 ?_
        exact k_iret (pc := 44) hX dX3_readsLetter_44 rfl rfl h
    · replace h := h.2 c_17
      refine z_aload_n (pc := 20) dX3_readsLetter_20 rfl ?_
      refine z_iconst (pc := 21) (v := 1) dX3_readsLetter_21 ic_1 ?_
      refine k_cVi (pc := 22) (av := [.int 1]) zc3 rfl dX3_readsLetter_22 lk_X3_73 rfl (by decide) (by decide) (by decide) rfl rfl h (fun r7 f7 h => ?_)
      exact k_iret (pc := 25) hX dX3_readsLetter_25 rfl h.1 h.2
  · replace h := h.2 c_6
    refine z_iconst (pc := 9) (v := 0) dX3_readsLetter_9 ic_0 ?_
    exact k_iret (pc := 10) hX dX3_readsLetter_10 rfl rfl h
set_option maxRecDepth 20000 in
theorem w_X3_readsSheet {f : zF} {K : Int32 → zF → Prop}  (h : ci mX3_takesWord [.ref 3, .ref (1000 + 7)] f (fun r1 f1 => ((r1 = 0 → K 0 f1) ∧ (¬ r1 = 0 → ci mX3_readsFront [.ref 3] f1 (fun r2 f2 => ((r2 = 0 → K 0 f2) ∧ (¬ r2 = 0 → ci mX3_takesSign [.ref 3, .int 4] f2 (fun r3 f3 => ((r3 = 0 → K 0 f3) ∧ (¬ r3 = 0 → ci mX3_readsBack [.ref 3] f3 (fun r4 f4 => ((r4 = 0 → K 0 f4) ∧ (¬ r4 = 0 → ci mX3_takesSign [.ref 3, .int 3] f4 (fun r5 f5 => ((r5 = 0 → K 0 f5) ∧ (¬ r5 = 0 → K 1 f5)))))))))))))))) : ci mX3_readsSheet [.ref 3] f K := by
  refine ci_of (by decide) (Nat.le_of_ble_eq_true rfl) (fun X hX => ?_)
  refine z_aload_n (pc := 0) dX3_readsSheet_0 rfl ?_
  refine z_ldcS (pc := 1) dX3_readsSheet_1 co_X3_97 ?_
  refine k_cVi (pc := 3) (av := [.ref (1000 + 7)]) zc3 rfl dX3_readsSheet_3 lk_X3_47 rfl (by decide) (by decide) (by decide) rfl rfl h (fun r1 f1 h => ?_)
  refine z_if_eq (pc := 6) (t := 43) dX3_readsSheet_6 (by decide) (fun c_6 => ?_) (fun c_6 => ?_)
  · replace h := h.1 c_6
    refine z_iconst (pc := 43) (v := 0) dX3_readsSheet_43 ic_0 ?_
    exact k_iret (pc := 44) hX dX3_readsSheet_44 rfl rfl h
  · replace h := h.2 c_6
    refine z_aload_n (pc := 9) dX3_readsSheet_9 rfl ?_
    refine k_cVi (pc := 10) (av := []) zc3 rfl dX3_readsSheet_10 lk_X3_99 rfl (by decide) (by decide) (by decide) rfl rfl h (fun r2 f2 h => ?_)
    refine z_if_eq (pc := 13) (t := 43) dX3_readsSheet_13 (by decide) (fun c_13 => ?_) (fun c_13 => ?_)
    · replace h := h.1 c_13
      refine z_iconst (pc := 43) (v := 0) dX3_readsSheet_43 ic_0 ?_
      exact k_iret (pc := 44) hX dX3_readsSheet_44 rfl rfl h
    · replace h := h.2 c_13
      refine z_aload_n (pc := 16) dX3_readsSheet_16 rfl ?_
      refine z_iconst (pc := 17) (v := 4) dX3_readsSheet_17 ic_4 ?_
      refine k_cVi (pc := 18) (av := [.int 4]) zc3 rfl dX3_readsSheet_18 lk_X3_62 rfl (by decide) (by decide) (by decide) rfl rfl h (fun r3 f3 h => ?_)
      refine z_if_eq (pc := 21) (t := 43) dX3_readsSheet_21 (by decide) (fun c_21 => ?_) (fun c_21 => ?_)
      · replace h := h.1 c_21
        refine z_iconst (pc := 43) (v := 0) dX3_readsSheet_43 ic_0 ?_
        exact k_iret (pc := 44) hX dX3_readsSheet_44 rfl rfl h
      · replace h := h.2 c_21
        refine z_aload_n (pc := 24) dX3_readsSheet_24 rfl ?_
        refine k_cVi (pc := 25) (av := []) zc3 rfl dX3_readsSheet_25 lk_X3_102 rfl (by decide) (by decide) (by decide) rfl rfl h (fun r4 f4 h => ?_)
        refine z_if_eq (pc := 28) (t := 43) dX3_readsSheet_28 (by decide) (fun c_28 => ?_) (fun c_28 => ?_)
        · replace h := h.1 c_28
          refine z_iconst (pc := 43) (v := 0) dX3_readsSheet_43 ic_0 ?_
          exact k_iret (pc := 44) hX dX3_readsSheet_44 rfl rfl h
        · replace h := h.2 c_28
          refine z_aload_n (pc := 31) dX3_readsSheet_31 rfl ?_
          refine z_iconst (pc := 32) (v := 3) dX3_readsSheet_32 ic_3 ?_
          refine k_cVi (pc := 33) (av := [.int 3]) zc3 rfl dX3_readsSheet_33 lk_X3_62 rfl (by decide) (by decide) (by decide) rfl rfl h (fun r5 f5 h => ?_)
          refine z_if_eq (pc := 36) (t := 43) dX3_readsSheet_36 (by decide) (fun c_36 => ?_) (fun c_36 => ?_)
          · replace h := h.1 c_36
            refine z_iconst (pc := 43) (v := 0) dX3_readsSheet_43 ic_0 ?_
            exact k_iret (pc := 44) hX dX3_readsSheet_44 rfl rfl h
          · replace h := h.2 c_36
            refine z_iconst (pc := 39) (v := 1) dX3_readsSheet_39 ic_1 ?_
            refine z_goto (pc := 40) (t := 44) dX3_readsSheet_40 (by decide) ?_
            exact k_iret (pc := 44) hX dX3_readsSheet_44 rfl rfl h
set_option maxRecDepth 20000 in
theorem w_X3_readsLetters {f : zF} {K : Int32 → zF → Prop}  (h : ∀ X, kR X (zRi K) → Z X mX3_readsLetters 2 [(0, .ref 3), (1, .int 0)] [] (zC f)) : ci mX3_readsLetters [.ref 3] f K := by
  refine ci_of (by decide) (Nat.le_of_ble_eq_true rfl) (fun X hX => ?_)
  replace h := h X hX
  refine z_iconst (pc := 0) (v := 0) dX3_readsLetters_0 ic_0 ?_
  refine z_istore_n (pc := 1) (lv' := [(1, .int 0), (0, .ref 3)]) dX3_readsLetters_1 (Nat.le_of_ble_eq_true rfl) rfl ?_
  exact z_sub [1, 0] rfl h
set_option maxRecDepth 20000 in
theorem l_X3_readsLetters_2 {X : zX} {f : zF} {K : Int32 → zF → Prop}  {x1 : Int32}  (hX : kR X (zRi K)) (h : ((8 ≤ x1 → ci mX5_isWord [.ref 4, .ref (1000 + 1)] f (fun r101 f101 => ((r101 = 0 → K 1 f101) ∧ (¬ r101 = 0 → ci mX3_fails [.ref 3, .int 3] f101 (fun r102 f102 => ((r102 = 0 → K 0 f102) ∧ (¬ r102 = 0 → K 1 f102))))))) ∧ (¬ 8 ≤ x1 → ((x1 = 0 → ci mX3_readsLetter [.ref 3] f (fun r103 f103 => ((¬ r103 = 0 → Z X mX3_readsLetters 2 [(0, .ref 3), (1, .int (x1 + 1))] [] (zC f103)) ∧ (r103 = 0 → K 0 f103)))) ∧ (¬ x1 = 0 → ci mX5_isWord [.ref 4, .ref (1000 + 1)] f (fun r104 f104 => ((r104 = 0 → ci mX5_isWord [.ref 4, .ref (1000 + 1)] f104 (fun r105 f105 => ((r105 = 0 → K 1 f105) ∧ (¬ r105 = 0 → ci mX3_fails [.ref 3, .int 3] f105 (fun r106 f106 => ((r106 = 0 → K 0 f106) ∧ (¬ r106 = 0 → K 1 f106))))))) ∧ (¬ r104 = 0 → ci mX3_readsLetter [.ref 3] f104 (fun r107 f107 => ((¬ r107 = 0 → Z X mX3_readsLetters 2 [(0, .ref 3), (1, .int (x1 + 1))] [] (zC f107)) ∧ (r107 = 0 → K 0 f107))))))))))) : Z X mX3_readsLetters 2 [(0, .ref 3), (1, .int x1)] [] (zC f) := by
  refine z_iload_n (pc := 2) dX3_readsLetters_2 rfl ?_
  refine z_bipush (pc := 3) (v := 8) dX3_readsLetters_3 bi_8 ?_
  refine z_icmp_ge (pc := 5) (t := 39) dX3_readsLetters_5 (by decide) (fun c_5 => ?_) (fun c_5 => ?_)
  · replace h := h.1 c_5
    refine z_aload_n (pc := 39) dX3_readsLetters_39 rfl ?_
    refine k_getr (pc := 40) (j := 0) zc3 dX3_readsLetters_40 fl_X3_12 (by decide) rfl (by decide) rfl (k2 := 4) rfl ?_
    refine z_ldcS (pc := 43) dX3_readsLetters_43 co_X3_65 ?_
    refine k_cVi (pc := 45) (av := [.ref (1000 + 1)]) zc5 rfl dX3_readsLetters_45 lk_X3_67 rfl (by decide) (by decide) (by decide) rfl rfl h (fun r101 f101 h => ?_)
    refine z_if_eq (pc := 48) (t := 59) dX3_readsLetters_48 (by decide) (fun c_48 => ?_) (fun c_48 => ?_)
    · replace h := h.1 c_48
      refine z_iconst (pc := 59) (v := 1) dX3_readsLetters_59 ic_1 ?_
      refine z_goto (pc := 60) (t := 64) dX3_readsLetters_60 (by decide) ?_
      exact k_iret (pc := 64) hX dX3_readsLetters_64 rfl rfl h
    · replace h := h.2 c_48
      refine z_aload_n (pc := 51) dX3_readsLetters_51 rfl ?_
      refine z_iconst (pc := 52) (v := 3) dX3_readsLetters_52 ic_3 ?_
      refine k_cVi (pc := 53) (av := [.int 3]) zc3 rfl dX3_readsLetters_53 lk_X3_73 rfl (by decide) (by decide) (by decide) rfl rfl h (fun r102 f102 h => ?_)
      refine z_if_eq (pc := 56) (t := 63) dX3_readsLetters_56 (by decide) (fun c_56 => ?_) (fun c_56 => ?_)
      · replace h := h.1 c_56
        refine z_iconst (pc := 63) (v := 0) dX3_readsLetters_63 ic_0 ?_
        exact k_iret (pc := 64) hX dX3_readsLetters_64 rfl rfl h
      · replace h := h.2 c_56
        refine z_iconst (pc := 59) (v := 1) dX3_readsLetters_59 ic_1 ?_
        refine z_goto (pc := 60) (t := 64) dX3_readsLetters_60 (by decide) ?_
        exact k_iret (pc := 64) hX dX3_readsLetters_64 rfl rfl h
  · replace h := h.2 c_5
    refine z_iload_n (pc := 8) dX3_readsLetters_8 rfl ?_
    refine z_if_eq (pc := 9) (t := 24) dX3_readsLetters_9 (by decide) (fun c_9 => ?_) (fun c_9 => ?_)
    · replace h := h.1 c_9
      refine z_aload_n (pc := 24) dX3_readsLetters_24 rfl ?_
      refine k_cVi (pc := 25) (av := []) zc3 rfl dX3_readsLetters_25 lk_X3_70 rfl (by decide) (by decide) (by decide) rfl rfl h (fun r103 f103 h => ?_)
      refine z_if_ne (pc := 28) (t := 33) dX3_readsLetters_28 (by decide) (fun c_28 => ?_) (fun c_28 => ?_)
      · replace h := h.1 c_28
        refine z_iinc (pc := 33) (v := (x1 + 1)) (lv' := [(1, .int (x1 + 1)), (0, .ref 3)]) dX3_readsLetters_33 rfl (congrArg (fun z => x1 + z) ic_1) (Nat.le_of_ble_eq_true rfl) rfl ?_
        refine z_goto (pc := 36) (t := 2) dX3_readsLetters_36 (by decide) ?_
        exact z_sub [1, 0] rfl h
      · replace h := h.2 c_28
        refine z_iconst (pc := 31) (v := 0) dX3_readsLetters_31 ic_0 ?_
        exact k_iret (pc := 32) hX dX3_readsLetters_32 rfl rfl h
    · replace h := h.2 c_9
      refine z_aload_n (pc := 12) dX3_readsLetters_12 rfl ?_
      refine k_getr (pc := 13) (j := 0) zc3 dX3_readsLetters_13 fl_X3_12 (by decide) rfl (by decide) rfl (k2 := 4) rfl ?_
      refine z_ldcS (pc := 16) dX3_readsLetters_16 co_X3_65 ?_
      refine k_cVi (pc := 18) (av := [.ref (1000 + 1)]) zc5 rfl dX3_readsLetters_18 lk_X3_67 rfl (by decide) (by decide) (by decide) rfl rfl h (fun r104 f104 h => ?_)
      refine z_if_eq (pc := 21) (t := 39) dX3_readsLetters_21 (by decide) (fun c_21 => ?_) (fun c_21 => ?_)
      · replace h := h.1 c_21
        refine z_aload_n (pc := 39) dX3_readsLetters_39 rfl ?_
        refine k_getr (pc := 40) (j := 0) zc3 dX3_readsLetters_40 fl_X3_12 (by decide) rfl (by decide) rfl (k2 := 4) rfl ?_
        refine z_ldcS (pc := 43) dX3_readsLetters_43 co_X3_65 ?_
        refine k_cVi (pc := 45) (av := [.ref (1000 + 1)]) zc5 rfl dX3_readsLetters_45 lk_X3_67 rfl (by decide) (by decide) (by decide) rfl rfl h (fun r105 f105 h => ?_)
        refine z_if_eq (pc := 48) (t := 59) dX3_readsLetters_48 (by decide) (fun c_48 => ?_) (fun c_48 => ?_)
        · replace h := h.1 c_48
          refine z_iconst (pc := 59) (v := 1) dX3_readsLetters_59 ic_1 ?_
          refine z_goto (pc := 60) (t := 64) dX3_readsLetters_60 (by decide) ?_
          exact k_iret (pc := 64) hX dX3_readsLetters_64 rfl rfl h
        · replace h := h.2 c_48
          refine z_aload_n (pc := 51) dX3_readsLetters_51 rfl ?_
          refine z_iconst (pc := 52) (v := 3) dX3_readsLetters_52 ic_3 ?_
          refine k_cVi (pc := 53) (av := [.int 3]) zc3 rfl dX3_readsLetters_53 lk_X3_73 rfl (by decide) (by decide) (by decide) rfl rfl h (fun r106 f106 h => ?_)
          refine z_if_eq (pc := 56) (t := 63) dX3_readsLetters_56 (by decide) (fun c_56 => ?_) (fun c_56 => ?_)
          · replace h := h.1 c_56
            refine z_iconst (pc := 63) (v := 0) dX3_readsLetters_63 ic_0 ?_
            exact k_iret (pc := 64) hX dX3_readsLetters_64 rfl rfl h
          · replace h := h.2 c_56
            refine z_iconst (pc := 59) (v := 1) dX3_readsLetters_59 ic_1 ?_
            refine z_goto (pc := 60) (t := 64) dX3_readsLetters_60 (by decide) ?_
            exact k_iret (pc := 64) hX dX3_readsLetters_64 rfl rfl h
      · replace h := h.2 c_21
        refine z_aload_n (pc := 24) dX3_readsLetters_24 rfl ?_
        refine k_cVi (pc := 25) (av := []) zc3 rfl dX3_readsLetters_25 lk_X3_70 rfl (by decide) (by decide) (by decide) rfl rfl h (fun r107 f107 h => ?_)
        refine z_if_ne (pc := 28) (t := 33) dX3_readsLetters_28 (by decide) (fun c_28 => ?_) (fun c_28 => ?_)
        · replace h := h.1 c_28
          refine z_iinc (pc := 33) (v := (x1 + 1)) (lv' := [(1, .int (x1 + 1)), (0, .ref 3)]) dX3_readsLetters_33 rfl (congrArg (fun z => x1 + z) ic_1) (Nat.le_of_ble_eq_true rfl) rfl ?_
          refine z_goto (pc := 36) (t := 2) dX3_readsLetters_36 (by decide) ?_
          exact z_sub [1, 0] rfl h
        · replace h := h.2 c_28
          refine z_iconst (pc := 31) (v := 0) dX3_readsLetters_31 ic_0 ?_
          exact k_iret (pc := 32) hX dX3_readsLetters_32 rfl rfl h
set_option maxRecDepth 20000 in
theorem w_X3_readsPage {f : zF} {K : Int32 → zF → Prop}  (h : cv mX2_makeEmpty [.ref 6] f (fun f1 => cv mX5_rewind [.ref 4] f1 (fun f2 => ci mX3_readsLaw [.ref 3] f2 (fun r3 f3 => ((r3 = 0 → cv mX5_makeEmpty [.ref 4] f3 (fun f4 => K 0 f4)) ∧ (¬ r3 = 0 → ci mX3_readsLetters [.ref 3] f3 (fun r5 f5 => ((r5 = 0 → cv mX5_makeEmpty [.ref 4] f5 (fun f6 => K 0 f6)) ∧ (¬ r5 = 0 → ci mX3_readsSheet [.ref 3] f5 (fun r7 f7 => ((r7 = 0 → cv mX5_makeEmpty [.ref 4] f7 (fun f8 => K 0 f8)) ∧ (¬ r7 = 0 → ci mX3_readsEnd [.ref 3] f7 (fun r9 f9 => (∀ z10 : Int32, z10 = (if r9 = 0 then 0 else 1) → cv mX5_makeEmpty [.ref 4] f9 (fun f11 => (narrow .boolean (.int z10) = .int z10 ∧ K z10 f11)))))))))))))))) : ci mX3_readsPage [.ref 3] f K := by
  refine ci_of (by decide) (Nat.le_of_ble_eq_true rfl) (fun X hX => ?_)
  refine z_aload_n (pc := 0) dX3_readsPage_0 rfl ?_
  refine k_getr (pc := 1) (j := 1) zc3 dX3_readsPage_1 fl_X3_21 (by decide) rfl (by decide) rfl (k2 := 6) rfl ?_
  refine k_cVv (pc := 4) (av := []) zc2 rfl dX3_readsPage_4 lk_X3_25 rfl (by decide) (by decide) (by decide) rfl rfl h (fun f1 h => ?_)
  refine z_aload_n (pc := 7) dX3_readsPage_7 rfl ?_
  refine k_getr (pc := 8) (j := 0) zc3 dX3_readsPage_8 fl_X3_12 (by decide) rfl (by decide) rfl (k2 := 4) rfl ?_
  refine k_cVv (pc := 11) (av := []) zc5 rfl dX3_readsPage_11 lk_X3_28 rfl (by decide) (by decide) (by decide) rfl rfl h (fun f2 h => ?_)
  refine z_aload_n (pc := 14) dX3_readsPage_14 rfl ?_
  refine k_cVi (pc := 15) (av := []) zc3 rfl dX3_readsPage_15 lk_X3_31 rfl (by decide) (by decide) (by decide) rfl rfl h (fun r3 f3 h => ?_)
  refine z_if_eq (pc := 18) (t := 46) dX3_readsPage_18 (by decide) (fun c_18 => ?_) (fun c_18 => ?_)
  · replace h := h.1 c_18
    refine z_iconst (pc := 46) (v := 0) dX3_readsPage_46 ic_0 ?_
    refine z_istore_n (pc := 47) (lv' := [(1, .int 0), (0, .ref 3)]) dX3_readsPage_47 (Nat.le_of_ble_eq_true rfl) rfl ?_
    refine z_aload_n (pc := 48) dX3_readsPage_48 rfl ?_
    refine k_getr (pc := 49) (j := 0) zc3 dX3_readsPage_49 fl_X3_12 (by decide) rfl (by decide) rfl (k2 := 4) rfl ?_
    refine k_cVv (pc := 52) (av := []) zc5 rfl dX3_readsPage_52 lk_X3_44 rfl (by decide) (by decide) (by decide) rfl rfl h (fun f4 h => ?_)
    refine z_iload_n (pc := 55) dX3_readsPage_55 rfl ?_
    exact k_iret (pc := 56) hX dX3_readsPage_56 rfl rfl h
  · replace h := h.2 c_18
    refine z_aload_n (pc := 21) dX3_readsPage_21 rfl ?_
    refine k_cVi (pc := 22) (av := []) zc3 rfl dX3_readsPage_22 lk_X3_35 rfl (by decide) (by decide) (by decide) rfl rfl h (fun r5 f5 h => ?_)
    refine z_if_eq (pc := 25) (t := 46) dX3_readsPage_25 (by decide) (fun c_25 => ?_) (fun c_25 => ?_)
    · replace h := h.1 c_25
      refine z_iconst (pc := 46) (v := 0) dX3_readsPage_46 ic_0 ?_
      refine z_istore_n (pc := 47) (lv' := [(1, .int 0), (0, .ref 3)]) dX3_readsPage_47 (Nat.le_of_ble_eq_true rfl) rfl ?_
      refine z_aload_n (pc := 48) dX3_readsPage_48 rfl ?_
      refine k_getr (pc := 49) (j := 0) zc3 dX3_readsPage_49 fl_X3_12 (by decide) rfl (by decide) rfl (k2 := 4) rfl ?_
      refine k_cVv (pc := 52) (av := []) zc5 rfl dX3_readsPage_52 lk_X3_44 rfl (by decide) (by decide) (by decide) rfl rfl h (fun f6 h => ?_)
      refine z_iload_n (pc := 55) dX3_readsPage_55 rfl ?_
      exact k_iret (pc := 56) hX dX3_readsPage_56 rfl rfl h
    · replace h := h.2 c_25
      refine z_aload_n (pc := 28) dX3_readsPage_28 rfl ?_
      refine k_cVi (pc := 29) (av := []) zc3 rfl dX3_readsPage_29 lk_X3_38 rfl (by decide) (by decide) (by decide) rfl rfl h (fun r7 f7 h => ?_)
      refine z_if_eq (pc := 32) (t := 46) dX3_readsPage_32 (by decide) (fun c_32 => ?_) (fun c_32 => ?_)
      · replace h := h.1 c_32
        refine z_iconst (pc := 46) (v := 0) dX3_readsPage_46 ic_0 ?_
        refine z_istore_n (pc := 47) (lv' := [(1, .int 0), (0, .ref 3)]) dX3_readsPage_47 (Nat.le_of_ble_eq_true rfl) rfl ?_
        refine z_aload_n (pc := 48) dX3_readsPage_48 rfl ?_
        refine k_getr (pc := 49) (j := 0) zc3 dX3_readsPage_49 fl_X3_12 (by decide) rfl (by decide) rfl (k2 := 4) rfl ?_
        refine k_cVv (pc := 52) (av := []) zc5 rfl dX3_readsPage_52 lk_X3_44 rfl (by decide) (by decide) (by decide) rfl rfl h (fun f8 h => ?_)
        refine z_iload_n (pc := 55) dX3_readsPage_55 rfl ?_
        exact k_iret (pc := 56) hX dX3_readsPage_56 rfl rfl h
      · replace h := h.2 c_32
        refine z_aload_n (pc := 35) dX3_readsPage_35 rfl ?_
        refine k_cVi (pc := 36) (av := []) zc3 rfl dX3_readsPage_36 lk_X3_41 rfl (by decide) (by decide) (by decide) rfl rfl h (fun r9 f9 h => ?_)
        suffices hm12 : Z X mX3_readsPage 47 [(0, .ref 3)] [.int (if r9 = 0 then 0 else 1)] (zC f9) by
          refine z_if_eq (pc := 39) (t := 46) dX3_readsPage_39 (by decide) (fun c_39 => ?_) (fun c_39 => ?_)
          · rw [if_pos c_39] at hm12
            refine z_iconst (pc := 46) (v := 0) dX3_readsPage_46 ic_0 ?_
            exact hm12
          · rw [if_neg c_39] at hm12
            refine z_iconst (pc := 42) (v := 1) dX3_readsPage_42 ic_1 ?_
            refine z_goto (pc := 43) (t := 47) dX3_readsPage_43 (by decide) ?_
            exact hm12
        refine z_name (fun z10 e_z10 => ?_)
        replace h := h z10 e_z10
        refine z_istore_n (pc := 47) (lv' := [(1, .int z10), (0, .ref 3)]) dX3_readsPage_47 (Nat.le_of_ble_eq_true rfl) rfl ?_
        refine z_aload_n (pc := 48) dX3_readsPage_48 rfl ?_
        refine k_getr (pc := 49) (j := 0) zc3 dX3_readsPage_49 fl_X3_12 (by decide) rfl (by decide) rfl (k2 := 4) rfl ?_
        refine k_cVv (pc := 52) (av := []) zc5 rfl dX3_readsPage_52 lk_X3_44 rfl (by decide) (by decide) (by decide) rfl rfl h (fun f11 h => ?_)
        refine z_iload_n (pc := 55) dX3_readsPage_55 rfl ?_
        exact k_iret (pc := 56) hX dX3_readsPage_56 rfl h.1 h.2
set_option maxRecDepth 20000 in
theorem w_X6_page {f : zF} {K : Int32 → zF → Prop}  (h : ci mX3_readsPage [.ref 3] f (fun r1 f1 => ((¬ r1 = 0 → cv mX2_takeAll [.ref 12, .ref 6] f1 (fun f2 => cv mX0_forgetAll [.ref 18] f2 (fun f3 => K (f3 12 2) f3))) ∧ (r1 = 0 → K ((-1000100) - (f1 3 3)) f1)))) : ci mX6_page [.ref 0] f K := by
  refine ci_of (by decide) (Nat.le_of_ble_eq_true rfl) (fun X hX => ?_)
  refine z_aload_n (pc := 0) dX6_page_0 rfl ?_
  refine k_getr (pc := 1) (j := 2) zc6 dX6_page_1 fl_X6_24 (by decide) rfl (by decide) rfl (k2 := 3) rfl ?_
  refine k_cVi (pc := 4) (av := []) zc3 rfl dX6_page_4 lk_X6_104 rfl (by decide) (by decide) (by decide) rfl rfl h (fun r1 f1 h => ?_)
  refine z_if_ne (pc := 7) (t := 21) dX6_page_7 (by decide) (fun c_7 => ?_) (fun c_7 => ?_)
  · replace h := h.1 c_7
    refine z_aload_n (pc := 21) dX6_page_21 rfl ?_
    refine k_getr (pc := 22) (j := 3) zc6 dX6_page_22 fl_X6_29 (by decide) rfl (by decide) rfl (k2 := 12) rfl ?_
    refine z_aload_n (pc := 25) dX6_page_25 rfl ?_
    refine k_getr (pc := 26) (j := 2) zc6 dX6_page_26 fl_X6_24 (by decide) rfl (by decide) rfl (k2 := 3) rfl ?_
    refine k_getr (pc := 29) (j := 1) zc3 dX6_page_29 fl_X6_111 (by decide) rfl (by decide) rfl (k2 := 6) rfl ?_
    refine k_cVv (pc := 32) (av := [.ref 6]) zc2 rfl dX6_page_32 lk_X6_114 rfl (by decide) (by decide) (by decide) rfl rfl h (fun f2 h => ?_)
    refine z_aload_n (pc := 35) dX6_page_35 rfl ?_
    refine k_getr (pc := 36) (j := 4) zc6 dX6_page_36 fl_X6_36 (by decide) rfl (by decide) rfl (k2 := 18) rfl ?_
    refine k_cVv (pc := 39) (av := []) zc0 rfl dX6_page_39 lk_X6_118 rfl (by decide) (by decide) (by decide) rfl rfl h (fun f3 h => ?_)
    refine z_aload_n (pc := 42) dX6_page_42 rfl ?_
    refine k_getr (pc := 43) (j := 3) zc6 dX6_page_43 fl_X6_29 (by decide) rfl (by decide) rfl (k2 := 12) rfl ?_
    refine k_geti (pc := 46) (j := 2) zc2 dX6_page_46 fl_X6_121 (by decide) rfl (by decide) rfl (v := (f3 12 2)) rfl ?_
    exact k_iret (pc := 49) hX dX6_page_49 rfl rfl h
  · replace h := h.2 c_7
    refine z_ldc (pc := 10) (v := -1000100) dX6_page_10 co_X6_107 ?_
    refine z_aload_n (pc := 12) dX6_page_12 rfl ?_
    refine k_getr (pc := 13) (j := 2) zc6 dX6_page_13 fl_X6_24 (by decide) rfl (by decide) rfl (k2 := 3) rfl ?_
    refine k_geti (pc := 16) (j := 3) zc3 dX6_page_16 fl_X6_108 (by decide) rfl (by decide) rfl (v := (f1 3 3)) rfl ?_
    refine z_isub (pc := 19) dX6_page_19 ?_
    exact k_iret (pc := 20) hX dX6_page_20 rfl rfl h
