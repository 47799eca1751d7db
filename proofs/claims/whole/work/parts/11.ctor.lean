/-! ===== the constructors ===== -/
theorem bi_7 : (Int8.ofInt (7)).toInt32 = 7 := by decide
theorem bi_74 : (Int8.ofInt (74)).toInt32 = 74 := by decide
theorem si_320 : (Int16.ofInt (320)).toInt32 = 320 := by decide
theorem si_888 : (Int16.ofInt (888)).toInt32 = 888 := by decide
theorem def_X0 : ∀ j, j < 5 → defaultValue (tyX0 j) = if (zft 0).getD j false = true then .null else .int 0 := by decide
theorem def_X1 : ∀ j, j < 2 → defaultValue (tyX1 j) = if (zft 1).getD j false = true then .null else .int 0 := by decide
theorem def_X2 : ∀ j, j < 8 → defaultValue (tyX2 j) = if (zft 2).getD j false = true then .null else .int 0 := by decide
theorem def_X3 : ∀ j, j < 5 → defaultValue (tyX3 j) = if (zft 3).getD j false = true then .null else .int 0 := by decide
theorem def_X4 : ∀ j, j < 3 → defaultValue (tyX4 j) = if (zft 4).getD j false = true then .null else .int 0 := by decide
theorem def_X5 : ∀ j, j < 5 → defaultValue (tyX5 j) = if (zft 5).getD j false = true then .null else .int 0 := by decide
theorem def_X6 : ∀ j, j < 7 → defaultValue (tyX6 j) = if (zft 6).getD j false = true then .null else .int 0 := by decide
theorem def_X7 : ∀ j, j < 25 → defaultValue (tyX7 j) = if (zft 7).getD j false = true then .null else .int 0 := by decide
theorem z_callC {X : zX} {M : zMt} {pc : Nat} {lv : List (Nat × Value)} {st : List Value} {S T : zS} {idx k mc ms : Nat} {M' : zMt} (hd : decode M.2.1 pc = .ok (.invokespecial idx, 3)) (lk : zLkI M.1.cls idx M' 0 ∨ zLkJ M.1.cls idx M' 0) (hn : ([] : List Value).length = 0) (hD : M'.2.2.2.2 + 1 ≤ M.2.2.2.2) (hL : M'.2.2.1 ≤ 9) (hst : Nat.ble ((st.map fun v => v.category).sum) 8 = true) (hM : zM M' mc ms [.ref k] S (fun v S' => v = none ∧ S' = T)) (hcap : zcap X (S.1 + mc) (S.2.1 + ms)) (hn2 : S.1 + mc ≤ 1000) (hT : T.1 = S.1 + mc ∧ T.2.1 = S.2.1 + ms) (kk : Z X M (pc + 3) lv st T) : Z X M pc lv (.ref k :: st) S :=
  z_callI (av := []) hd lk hn hD hL hst hM hcap hn2 (fun v S' h => by
    obtain ⟨rfl, rfl⟩ := h
    exact ⟨rfl, hT, kk⟩)
theorem sh_keep {S : zS} {k c N : Nat} {sh : Nat × Nat} (hk : k < S.1) (hs : (S.2.2.1 k).1 = c) : ((znew S sh N).2.2.1 k).1 = c := by
  show (if k = S.1 then sh else S.2.2.1 k).1 = c
  rw [if_neg (Nat.ne_of_lt hk)]
  exact hs
theorem shi_keep {S : zS} {k c a b : Nat} {v : Int32} (hs : (S.2.2.1 k).1 = c) : ((zset S a b v).2.2.1 k).1 = c := hs
theorem shr_keep {S : zS} {k c a b : Nat} {v : Option Nat} (hs : (S.2.2.1 k).1 = c) : ((zsetr S a b v).2.2.1 k).1 = c := hs
def tX4 (S : zS) (k : Nat) : zS := (zset (zsetr (znew S (8, 40) 40) k 0 (some S.1)) k 1 (-1))
theorem sht_X4 {S : zS} {k k0 c : Nat} (hk : k < S.1) (hs : (S.2.2.1 k).1 = c) : ((tX4 S k0).2.2.1 k).1 = c := (shi_keep (shr_keep (sh_keep hk hs)))
set_option maxRecDepth 20000 in
theorem ct_X4 {S : zS} {k : Nat} (hk : k < S.1) (hs : (S.2.2.1 k).1 = 4) (hn : S.1 + 1 ≤ 1000) : zM mX4_init 1 40 [.ref k] S (fun v S' => v = none ∧ S' = tX4 S k) := by
  refine zM_of (by decide) (Nat.le_of_ble_eq_true rfl) (by omega) (fun X hR => ?_)
  refine z_aload_n (pc := 0) dX4_init_0 rfl ?_
  refine z_objInit (pc := 1) dX4_init_1 lk_X4_3 (by decide) rfl ?_
  refine z_aload_n (pc := 4) dX4_init_4 rfl ?_
  refine z_bipush (pc := 5) (v := 40) dX4_init_5 bi_40 ?_
  refine z_newaT (pc := 7) (t := 0) (n := 40) (at1 := .int) (ty1 := .int) (Or.inl ⟨rfl, rfl, rfl⟩) dX4_init_7 ar_int (by decide) (by decide) (by decide) (zcap_of hR (by show S.1 + 1 ≤ S.1 + 1; omega) (by show S.2.1 + 40 ≤ S.2.1 + 40; omega)) (by show S.1 + 1 ≤ 1000; omega) ?_
  refine z_putF (pc := 9) (j := 0) zc4 dX4_init_9 fl_X4_9 (by decide) rfl rfl rfl rfl ⟨rfl, fun _ => ⟨rfl, rfl⟩⟩ (Nat.lt_of_lt_of_le hk (Nat.le_add_right S.1 1)) (sh_keep hk hs) ?_
  refine z_aload_n (pc := 12) dX4_init_12 rfl ?_
  refine z_iconst (pc := 13) (v := -1) dX4_init_13 ic_m1 ?_
  refine z_puti (pc := 14) (j := 1) zc4 dX4_init_14 fl_X4_15 (by decide) rfl rfl rfl (Nat.lt_of_lt_of_le hk (Nat.le_add_right S.1 1)) (shr_keep (sh_keep hk hs)) ?_
  exact z_vret hR (pc := 17) dX4_init_17 rfl ⟨rfl, rfl⟩
def tX2 (S : zS) (k : Nat) : zS := (zsetr (znew (zsetr (znew (zsetr (znew (zsetr (znew (zsetr (znew S (8, 8) 8) k 3 (some S.1)) (8, 8) 8) k 4 (some (S.1 + 1))) (8, 8) 8) k 5 (some (S.1 + 2))) (8, 9) 9) k 6 (some (S.1 + 3))) (8, 9) 9) k 7 (some (S.1 + 4)))
theorem sht_X2 {S : zS} {k k0 c : Nat} (hk : k < S.1) (hs : (S.2.2.1 k).1 = c) : ((tX2 S k0).2.2.1 k).1 = c := (shr_keep (sh_keep (Nat.lt_of_lt_of_le hk (Nat.le_add_right S.1 4)) (shr_keep (sh_keep (Nat.lt_of_lt_of_le hk (Nat.le_add_right S.1 3)) (shr_keep (sh_keep (Nat.lt_of_lt_of_le hk (Nat.le_add_right S.1 2)) (shr_keep (sh_keep (Nat.lt_of_lt_of_le hk (Nat.le_add_right S.1 1)) (shr_keep (sh_keep hk hs))))))))))
set_option maxRecDepth 20000 in
theorem ct_X2 {S : zS} {k : Nat} (hk : k < S.1) (hs : (S.2.2.1 k).1 = 2) (hn : S.1 + 5 ≤ 1000) : zM mX2_init 5 42 [.ref k] S (fun v S' => v = none ∧ S' = tX2 S k) := by
  refine zM_of (by decide) (Nat.le_of_ble_eq_true rfl) (by omega) (fun X hR => ?_)
  refine z_aload_n (pc := 0) dX2_init_0 rfl ?_
  refine z_objInit (pc := 1) dX2_init_1 lk_X2_3 (by decide) rfl ?_
  refine z_aload_n (pc := 4) dX2_init_4 rfl ?_
  refine z_bipush (pc := 5) (v := 8) dX2_init_5 bi_8 ?_
  refine z_newaT (pc := 7) (t := 0) (n := 8) (at1 := .int) (ty1 := .int) (Or.inl ⟨rfl, rfl, rfl⟩) dX2_init_7 ar_int (by decide) (by decide) (by decide) (zcap_of hR (by show S.1 + 1 ≤ S.1 + 5; omega) (by show S.2.1 + 8 ≤ S.2.1 + 42; omega)) (by show S.1 + 1 ≤ 1000; omega) ?_
  refine z_putF (pc := 9) (j := 3) zc2 dX2_init_9 fl_X2_9 (by decide) rfl rfl rfl rfl ⟨rfl, fun _ => ⟨rfl, rfl⟩⟩ (Nat.lt_of_lt_of_le hk (Nat.le_add_right S.1 1)) (sh_keep hk hs) ?_
  refine z_aload_n (pc := 12) dX2_init_12 rfl ?_
  refine z_bipush (pc := 13) (v := 8) dX2_init_13 bi_8 ?_
  refine z_newaT (pc := 15) (t := 0) (n := 8) (at1 := .int) (ty1 := .int) (Or.inl ⟨rfl, rfl, rfl⟩) dX2_init_15 ar_int (by decide) (by decide) (by decide) (zcap_of hR (by show S.1 + 1 + 1 ≤ S.1 + 5; omega) (by show S.2.1 + 8 + 8 ≤ S.2.1 + 42; omega)) (by show S.1 + 1 + 1 ≤ 1000; omega) ?_
  refine z_putF (pc := 17) (j := 4) zc2 dX2_init_17 fl_X2_15 (by decide) rfl rfl rfl rfl ⟨rfl, fun _ => ⟨rfl, rfl⟩⟩ (Nat.lt_of_lt_of_le hk (Nat.le_add_right S.1 2)) (sh_keep (Nat.lt_of_lt_of_le hk (Nat.le_add_right S.1 1)) (shr_keep (sh_keep hk hs))) ?_
  refine z_aload_n (pc := 20) dX2_init_20 rfl ?_
  refine z_bipush (pc := 21) (v := 8) dX2_init_21 bi_8 ?_
  refine z_newaT (pc := 23) (t := 0) (n := 8) (at1 := .int) (ty1 := .int) (Or.inl ⟨rfl, rfl, rfl⟩) dX2_init_23 ar_int (by decide) (by decide) (by decide) (zcap_of hR (by show S.1 + 2 + 1 ≤ S.1 + 5; omega) (by show S.2.1 + 8 + 8 + 8 ≤ S.2.1 + 42; omega)) (by show S.1 + 2 + 1 ≤ 1000; omega) ?_
  refine z_putF (pc := 25) (j := 5) zc2 dX2_init_25 fl_X2_18 (by decide) rfl rfl rfl rfl ⟨rfl, fun _ => ⟨rfl, rfl⟩⟩ (Nat.lt_of_lt_of_le hk (Nat.le_add_right S.1 3)) (sh_keep (Nat.lt_of_lt_of_le hk (Nat.le_add_right S.1 2)) (shr_keep (sh_keep (Nat.lt_of_lt_of_le hk (Nat.le_add_right S.1 1)) (shr_keep (sh_keep hk hs))))) ?_
  refine z_aload_n (pc := 28) dX2_init_28 rfl ?_
  refine z_bipush (pc := 29) (v := 9) dX2_init_29 bi_9 ?_
  refine z_newaT (pc := 31) (t := 0) (n := 9) (at1 := .int) (ty1 := .int) (Or.inl ⟨rfl, rfl, rfl⟩) dX2_init_31 ar_int (by decide) (by decide) (by decide) (zcap_of hR (by show S.1 + 3 + 1 ≤ S.1 + 5; omega) (by show S.2.1 + 8 + 8 + 8 + 9 ≤ S.2.1 + 42; omega)) (by show S.1 + 3 + 1 ≤ 1000; omega) ?_
  refine z_putF (pc := 33) (j := 6) zc2 dX2_init_33 fl_X2_21 (by decide) rfl rfl rfl rfl ⟨rfl, fun _ => ⟨rfl, rfl⟩⟩ (Nat.lt_of_lt_of_le hk (Nat.le_add_right S.1 4)) (sh_keep (Nat.lt_of_lt_of_le hk (Nat.le_add_right S.1 3)) (shr_keep (sh_keep (Nat.lt_of_lt_of_le hk (Nat.le_add_right S.1 2)) (shr_keep (sh_keep (Nat.lt_of_lt_of_le hk (Nat.le_add_right S.1 1)) (shr_keep (sh_keep hk hs))))))) ?_
  refine z_aload_n (pc := 36) dX2_init_36 rfl ?_
  refine z_bipush (pc := 37) (v := 9) dX2_init_37 bi_9 ?_
  refine z_newaT (pc := 39) (t := 0) (n := 9) (at1 := .int) (ty1 := .int) (Or.inl ⟨rfl, rfl, rfl⟩) dX2_init_39 ar_int (by decide) (by decide) (by decide) (zcap_of hR (by show S.1 + 4 + 1 ≤ S.1 + 5; omega) (by show S.2.1 + 8 + 8 + 8 + 9 + 9 ≤ S.2.1 + 42; omega)) (by show S.1 + 4 + 1 ≤ 1000; omega) ?_
  refine z_putF (pc := 41) (j := 7) zc2 dX2_init_41 fl_X2_24 (by decide) rfl rfl rfl rfl ⟨rfl, fun _ => ⟨rfl, rfl⟩⟩ (Nat.lt_of_lt_of_le hk (Nat.le_add_right S.1 5)) (sh_keep (Nat.lt_of_lt_of_le hk (Nat.le_add_right S.1 4)) (shr_keep (sh_keep (Nat.lt_of_lt_of_le hk (Nat.le_add_right S.1 3)) (shr_keep (sh_keep (Nat.lt_of_lt_of_le hk (Nat.le_add_right S.1 2)) (shr_keep (sh_keep (Nat.lt_of_lt_of_le hk (Nat.le_add_right S.1 1)) (shr_keep (sh_keep hk hs))))))))) ?_
  exact z_vret hR (pc := 44) dX2_init_44 rfl ⟨rfl, rfl⟩
def tX0 (S : zS) (k : Nat) : zS := (zsetr (znew (zsetr (znew (zsetr (znew S (8, 24) 24) k 0 (some S.1)) (8, 24) 24) k 1 (some (S.1 + 1))) (8, 24) 24) k 2 (some (S.1 + 2)))
theorem sht_X0 {S : zS} {k k0 c : Nat} (hk : k < S.1) (hs : (S.2.2.1 k).1 = c) : ((tX0 S k0).2.2.1 k).1 = c := (shr_keep (sh_keep (Nat.lt_of_lt_of_le hk (Nat.le_add_right S.1 2)) (shr_keep (sh_keep (Nat.lt_of_lt_of_le hk (Nat.le_add_right S.1 1)) (shr_keep (sh_keep hk hs))))))
set_option maxRecDepth 20000 in
theorem ct_X0 {S : zS} {k : Nat} (hk : k < S.1) (hs : (S.2.2.1 k).1 = 0) (hn : S.1 + 3 ≤ 1000) : zM mX0_init 3 72 [.ref k] S (fun v S' => v = none ∧ S' = tX0 S k) := by
  refine zM_of (by decide) (Nat.le_of_ble_eq_true rfl) (by omega) (fun X hR => ?_)
  refine z_aload_n (pc := 0) dX0_init_0 rfl ?_
  refine z_objInit (pc := 1) dX0_init_1 lk_X0_3 (by decide) rfl ?_
  refine z_aload_n (pc := 4) dX0_init_4 rfl ?_
  refine z_bipush (pc := 5) (v := 24) dX0_init_5 bi_24 ?_
  refine z_newaT (pc := 7) (t := 0) (n := 24) (at1 := .int) (ty1 := .int) (Or.inl ⟨rfl, rfl, rfl⟩) dX0_init_7 ar_int (by decide) (by decide) (by decide) (zcap_of hR (by show S.1 + 1 ≤ S.1 + 3; omega) (by show S.2.1 + 24 ≤ S.2.1 + 72; omega)) (by show S.1 + 1 ≤ 1000; omega) ?_
  refine z_putF (pc := 9) (j := 0) zc0 dX0_init_9 fl_X0_9 (by decide) rfl rfl rfl rfl ⟨rfl, fun _ => ⟨rfl, rfl⟩⟩ (Nat.lt_of_lt_of_le hk (Nat.le_add_right S.1 1)) (sh_keep hk hs) ?_
  refine z_aload_n (pc := 12) dX0_init_12 rfl ?_
  refine z_bipush (pc := 13) (v := 24) dX0_init_13 bi_24 ?_
  refine z_newaT (pc := 15) (t := 0) (n := 24) (at1 := .int) (ty1 := .int) (Or.inl ⟨rfl, rfl, rfl⟩) dX0_init_15 ar_int (by decide) (by decide) (by decide) (zcap_of hR (by show S.1 + 1 + 1 ≤ S.1 + 3; omega) (by show S.2.1 + 24 + 24 ≤ S.2.1 + 72; omega)) (by show S.1 + 1 + 1 ≤ 1000; omega) ?_
  refine z_putF (pc := 17) (j := 1) zc0 dX0_init_17 fl_X0_15 (by decide) rfl rfl rfl rfl ⟨rfl, fun _ => ⟨rfl, rfl⟩⟩ (Nat.lt_of_lt_of_le hk (Nat.le_add_right S.1 2)) (sh_keep (Nat.lt_of_lt_of_le hk (Nat.le_add_right S.1 1)) (shr_keep (sh_keep hk hs))) ?_
  refine z_aload_n (pc := 20) dX0_init_20 rfl ?_
  refine z_bipush (pc := 21) (v := 24) dX0_init_21 bi_24 ?_
  refine z_newaT (pc := 23) (t := 0) (n := 24) (at1 := .int) (ty1 := .int) (Or.inl ⟨rfl, rfl, rfl⟩) dX0_init_23 ar_int (by decide) (by decide) (by decide) (zcap_of hR (by show S.1 + 2 + 1 ≤ S.1 + 3; omega) (by show S.2.1 + 24 + 24 + 24 ≤ S.2.1 + 72; omega)) (by show S.1 + 2 + 1 ≤ 1000; omega) ?_
  refine z_putF (pc := 25) (j := 2) zc0 dX0_init_25 fl_X0_18 (by decide) rfl rfl rfl rfl ⟨rfl, fun _ => ⟨rfl, rfl⟩⟩ (Nat.lt_of_lt_of_le hk (Nat.le_add_right S.1 3)) (sh_keep (Nat.lt_of_lt_of_le hk (Nat.le_add_right S.1 2)) (shr_keep (sh_keep (Nat.lt_of_lt_of_le hk (Nat.le_add_right S.1 1)) (shr_keep (sh_keep hk hs))))) ?_
  exact z_vret hR (pc := 28) dX0_init_28 rfl ⟨rfl, rfl⟩
def tX1 (S : zS) (k : Nat) : zS := (zsetr (znew S (8, 16) 16) k 0 (some S.1))
theorem sht_X1 {S : zS} {k k0 c : Nat} (hk : k < S.1) (hs : (S.2.2.1 k).1 = c) : ((tX1 S k0).2.2.1 k).1 = c := (shr_keep (sh_keep hk hs))
set_option maxRecDepth 20000 in
theorem ct_X1 {S : zS} {k : Nat} (hk : k < S.1) (hs : (S.2.2.1 k).1 = 1) (hn : S.1 + 1 ≤ 1000) : zM mX1_init 1 16 [.ref k] S (fun v S' => v = none ∧ S' = tX1 S k) := by
  refine zM_of (by decide) (Nat.le_of_ble_eq_true rfl) (by omega) (fun X hR => ?_)
  refine z_aload_n (pc := 0) dX1_init_0 rfl ?_
  refine z_objInit (pc := 1) dX1_init_1 lk_X1_3 (by decide) rfl ?_
  refine z_aload_n (pc := 4) dX1_init_4 rfl ?_
  refine z_bipush (pc := 5) (v := 16) dX1_init_5 bi_16 ?_
  refine z_newaT (pc := 7) (t := 0) (n := 16) (at1 := .int) (ty1 := .int) (Or.inl ⟨rfl, rfl, rfl⟩) dX1_init_7 ar_int (by decide) (by decide) (by decide) (zcap_of hR (by show S.1 + 1 ≤ S.1 + 1; omega) (by show S.2.1 + 16 ≤ S.2.1 + 16; omega)) (by show S.1 + 1 ≤ 1000; omega) ?_
  refine z_putF (pc := 9) (j := 0) zc1 dX1_init_9 fl_X1_9 (by decide) rfl rfl rfl rfl ⟨rfl, fun _ => ⟨rfl, rfl⟩⟩ (Nat.lt_of_lt_of_le hk (Nat.le_add_right S.1 1)) (sh_keep hk hs) ?_
  exact z_vret hR (pc := 12) dX1_init_12 rfl ⟨rfl, rfl⟩
def tX5 (S : zS) (k : Nat) : zS := (zsetr (znew S (8, 400) 400) k 0 (some S.1))
theorem sht_X5 {S : zS} {k k0 c : Nat} (hk : k < S.1) (hs : (S.2.2.1 k).1 = c) : ((tX5 S k0).2.2.1 k).1 = c := (shr_keep (sh_keep hk hs))
set_option maxRecDepth 20000 in
theorem ct_X5 {S : zS} {k : Nat} (hk : k < S.1) (hs : (S.2.2.1 k).1 = 5) (hn : S.1 + 1 ≤ 1000) : zM mX5_init 1 400 [.ref k] S (fun v S' => v = none ∧ S' = tX5 S k) := by
  refine zM_of (by decide) (Nat.le_of_ble_eq_true rfl) (by omega) (fun X hR => ?_)
  refine z_aload_n (pc := 0) dX5_init_0 rfl ?_
  refine z_objInit (pc := 1) dX5_init_1 lk_X5_3 (by decide) rfl ?_
  refine z_aload_n (pc := 4) dX5_init_4 rfl ?_
  refine z_sipush (pc := 5) (v := 400) dX5_init_5 si_400 ?_
  refine z_newaT (pc := 8) (t := 0) (n := 400) (at1 := .int) (ty1 := .int) (Or.inl ⟨rfl, rfl, rfl⟩) dX5_init_8 ar_int (by decide) (by decide) (by decide) (zcap_of hR (by show S.1 + 1 ≤ S.1 + 1; omega) (by show S.2.1 + 400 ≤ S.2.1 + 400; omega)) (by show S.1 + 1 ≤ 1000; omega) ?_
  refine z_putF (pc := 10) (j := 0) zc5 dX5_init_10 fl_X5_9 (by decide) rfl rfl rfl rfl ⟨rfl, fun _ => ⟨rfl, rfl⟩⟩ (Nat.lt_of_lt_of_le hk (Nat.le_add_right S.1 1)) (sh_keep hk hs) ?_
  exact z_vret hR (pc := 13) dX5_init_13 rfl ⟨rfl, rfl⟩
def tX3 (S : zS) (k : Nat) : zS := (zsetr (tX2 (znew (zsetr (tX5 (znew S (5, 0) 5) S.1) k 0 (some S.1)) (2, 0) 8) (S.1 + 2)) k 1 (some (S.1 + 2)))
theorem sht_X3 {S : zS} {k k0 c : Nat} (hk : k < S.1) (hs : (S.2.2.1 k).1 = c) : ((tX3 S k0).2.2.1 k).1 = c := (shr_keep (sht_X2 (Nat.lt_of_lt_of_le hk (Nat.le_add_right S.1 3)) (sh_keep (Nat.lt_of_lt_of_le hk (Nat.le_add_right S.1 2)) (shr_keep (sht_X5 (Nat.lt_of_lt_of_le hk (Nat.le_add_right S.1 1)) (sh_keep hk hs))))))
set_option maxRecDepth 20000 in
theorem ct_X3 {S : zS} {k : Nat} (hk : k < S.1) (hs : (S.2.2.1 k).1 = 3) (hn : S.1 + 8 ≤ 1000) : zM mX3_init 8 455 [.ref k] S (fun v S' => v = none ∧ S' = tX3 S k) := by
  refine zM_of (by decide) (Nat.le_of_ble_eq_true rfl) (by omega) (fun X hR => ?_)
  refine z_aload_n (pc := 0) dX3_init_0 rfl ?_
  refine z_objInit (pc := 1) dX3_init_1 lk_X3_3 (by decide) rfl ?_
  refine z_aload_n (pc := 4) dX3_init_4 rfl ?_
  refine z_new (pc := 5) zc5 dX3_init_5 nw_X3_9 def_X5 (zcap_of hR (by show S.1 + 1 ≤ S.1 + 8; omega) (by show S.2.1 + 5 ≤ S.2.1 + 455; omega)) (by show S.1 + 1 ≤ 1000; omega) ?_
  refine z_dup (pc := 8) dX3_init_8 rfl ?_
  refine z_callC (pc := 9) dX3_init_9 lk_X3_11 rfl (by decide) (by decide) rfl (ct_X5 (Nat.add_lt_add_left (by decide) S.1 : S.1 + 0 < S.1 + 1) (by simp [znew, zsetr, zset]) (by show S.1 + 1 + 1 ≤ 1000; omega)) (zcap_of hR (by show S.1 + 1 + 1 ≤ S.1 + 8; omega) (by show S.2.1 + 5 + 400 ≤ S.2.1 + 455; omega)) (by show S.1 + 1 + 1 ≤ 1000; omega) ⟨rfl, rfl⟩ ?_
  refine z_putF (pc := 12) (j := 0) zc3 dX3_init_12 fl_X3_12 (by decide) rfl rfl rfl rfl ⟨rfl, fun _ => ⟨rfl, rfl⟩⟩ (Nat.lt_of_lt_of_le hk (Nat.le_add_right S.1 2)) (sht_X5 (Nat.lt_of_lt_of_le hk (Nat.le_add_right S.1 1)) (sh_keep hk hs)) ?_
  refine z_aload_n (pc := 15) dX3_init_15 rfl ?_
  refine z_new (pc := 16) zc2 dX3_init_16 nw_X3_18 def_X2 (zcap_of hR (by show S.1 + 2 + 1 ≤ S.1 + 8; omega) (by show S.2.1 + 5 + 400 + 8 ≤ S.2.1 + 455; omega)) (by show S.1 + 2 + 1 ≤ 1000; omega) ?_
  refine z_dup (pc := 19) dX3_init_19 rfl ?_
  refine z_callC (pc := 20) dX3_init_20 lk_X3_20 rfl (by decide) (by decide) rfl (ct_X2 (Nat.add_lt_add_left (by decide) S.1 : S.1 + 2 < S.1 + 3) (by simp [znew, zsetr, zset]) (by show S.1 + 3 + 5 ≤ 1000; omega)) (zcap_of hR (by show S.1 + 3 + 5 ≤ S.1 + 8; omega) (by show S.2.1 + 5 + 400 + 8 + 42 ≤ S.2.1 + 455; omega)) (by show S.1 + 3 + 5 ≤ 1000; omega) ⟨rfl, rfl⟩ ?_
  refine z_putF (pc := 23) (j := 1) zc3 dX3_init_23 fl_X3_21 (by decide) rfl rfl rfl rfl ⟨rfl, fun _ => ⟨rfl, rfl⟩⟩ (Nat.lt_of_lt_of_le hk (Nat.le_add_right S.1 8)) (sht_X2 (Nat.lt_of_lt_of_le hk (Nat.le_add_right S.1 3)) (sh_keep (Nat.lt_of_lt_of_le hk (Nat.le_add_right S.1 2)) (shr_keep (sht_X5 (Nat.lt_of_lt_of_le hk (Nat.le_add_right S.1 1)) (sh_keep hk hs))))) ?_
  exact z_vret hR (pc := 26) dX3_init_26 rfl ⟨rfl, rfl⟩
def zS00 : zS := (0, 0, fun _ => (0, 0), fun _ _ => none, fun _ _ => 0)
def zS1 : zS := znew zS00 (6, 0) 7
def tX6 : zS := (zsetr (tX2 (znew (zsetr (tX2 (znew (zsetr (tX4 (znew (zsetr (tX4 (znew (zsetr (tX4 (znew (zsetr (tX4 (znew (zsetr (tX4 (znew (zsetr (tX4 (znew (zsetr (tX4 (znew (zsetr (tX4 (znew (zsetr (tX1 (znew (zsetr (tX0 (znew (zsetr (tX2 (znew (zsetr (tX3 (znew (zsetr (znew (zsetr (znew zS1 (11, 8) 8) 0 0 (some 1)) (10, 2) 2) 0 1 (some 2)) (3, 0) 5) 3) 0 2 (some 3)) (2, 0) 8) 12) 0 3 (some 12)) (0, 0) 5) 18) 0 4 (some 18)) (1, 0) 2) 22) 0 5 (some 22)) (4, 0) 3) 24) 1 (Int32.toNatClampNeg 0) (some 24)) (4, 0) 3) 26) 1 (Int32.toNatClampNeg 1) (some 26)) (4, 0) 3) 28) 1 (Int32.toNatClampNeg 2) (some 28)) (4, 0) 3) 30) 1 (Int32.toNatClampNeg 3) (some 30)) (4, 0) 3) 32) 1 (Int32.toNatClampNeg 4) (some 32)) (4, 0) 3) 34) 1 (Int32.toNatClampNeg 5) (some 34)) (4, 0) 3) 36) 1 (Int32.toNatClampNeg 6) (some 36)) (4, 0) 3) 38) 1 (Int32.toNatClampNeg 7) (some 38)) (2, 0) 8) 40) 2 (Int32.toNatClampNeg 0) (some 40)) (2, 0) 8) 46) 2 (Int32.toNatClampNeg 1) (some 46))
set_option maxRecDepth 100000 in
set_option maxHeartbeats 4000000 in
theorem ct_X6 : zM mX6_init 51 1059 [.ref 0] zS1 (fun v S' => v = none ∧ S' = tX6) := by
  refine zM_of (by decide) (Nat.le_of_ble_eq_true rfl) (by show 1 ≤ 1000; decide) (fun X hR => ?_)
  refine z_aload_n (pc := 0) dX6_init_0 rfl ?_
  refine z_objInit (pc := 1) dX6_init_1 lk_X6_1 (by decide) rfl ?_
  refine z_aload_n (pc := 4) dX6_init_4 rfl ?_
  refine z_bipush (pc := 5) (v := 8) dX6_init_5 bi_8 ?_
  refine z_newq (pc := 7) (t := 1) (n := 8) (Or.inr ⟨rfl, rfl⟩) dX6_init_7 aw_X6_9 (by decide) (by decide) (by decide) (zcap_of hR (by show 1 + 1 ≤ 1 + 51; decide) (by show 7 + 8 ≤ 7 + 1059; decide)) (by show 1 + 1 ≤ 1000; decide) ?_
  refine z_putF (pc := 10) (j := 0) zc6 dX6_init_10 fl_X6_11 (by decide) rfl rfl rfl rfl ⟨rfl, fun _ => ⟨rfl, rfl⟩⟩ (by decide) rfl ?_
  refine z_aload_n (pc := 13) dX6_init_13 rfl ?_
  refine z_iconst (pc := 14) (v := 2) dX6_init_14 ic_2 ?_
  refine z_newq (pc := 15) (t := 0) (n := 2) (Or.inl ⟨rfl, rfl⟩) dX6_init_15 aw_X6_15 (by decide) (by decide) (by decide) (zcap_of hR (by show 2 + 1 ≤ 1 + 51; decide) (by show 15 + 2 ≤ 7 + 1059; decide)) (by show 2 + 1 ≤ 1000; decide) ?_
  refine z_putF (pc := 18) (j := 1) zc6 dX6_init_18 fl_X6_17 (by decide) rfl rfl rfl rfl ⟨rfl, fun _ => ⟨rfl, rfl⟩⟩ (by decide) rfl ?_
  refine z_aload_n (pc := 21) dX6_init_21 rfl ?_
  refine z_new (pc := 22) zc3 dX6_init_22 nw_X6_21 def_X3 (zcap_of hR (by show 3 + 1 ≤ 1 + 51; decide) (by show 17 + 5 ≤ 7 + 1059; decide)) (by show 3 + 1 ≤ 1000; decide) ?_
  refine z_dup (pc := 25) dX6_init_25 rfl ?_
  refine z_callC (pc := 26) dX6_init_26 lk_X6_23 rfl (by decide) (by decide) rfl (ct_X3 (by decide) rfl (by show 4 + 8 ≤ 1000; decide)) (zcap_of hR (by show 4 + 8 ≤ 1 + 51; decide) (by show 22 + 455 ≤ 7 + 1059; decide)) (by show 4 + 8 ≤ 1000; decide) ⟨rfl, rfl⟩ ?_
  refine z_putF (pc := 29) (j := 2) zc6 dX6_init_29 fl_X6_24 (by decide) rfl rfl rfl rfl ⟨rfl, fun _ => ⟨rfl, rfl⟩⟩ (by decide) rfl ?_
  refine z_aload_n (pc := 32) dX6_init_32 rfl ?_
  refine z_new (pc := 33) zc2 dX6_init_33 nw_X6_15 def_X2 (zcap_of hR (by show 12 + 1 ≤ 1 + 51; decide) (by show 477 + 8 ≤ 7 + 1059; decide)) (by show 12 + 1 ≤ 1000; decide) ?_
  refine z_dup (pc := 36) dX6_init_36 rfl ?_
  refine z_callC (pc := 37) dX6_init_37 lk_X6_28 rfl (by decide) (by decide) rfl (ct_X2 (by decide) rfl (by show 13 + 5 ≤ 1000; decide)) (zcap_of hR (by show 13 + 5 ≤ 1 + 51; decide) (by show 485 + 42 ≤ 7 + 1059; decide)) (by show 13 + 5 ≤ 1000; decide) ⟨rfl, rfl⟩ ?_
  refine z_putF (pc := 40) (j := 3) zc6 dX6_init_40 fl_X6_29 (by decide) rfl rfl rfl rfl ⟨rfl, fun _ => ⟨rfl, rfl⟩⟩ (by decide) rfl ?_
  refine z_aload_n (pc := 43) dX6_init_43 rfl ?_
  refine z_new (pc := 44) zc0 dX6_init_44 nw_X6_33 def_X0 (zcap_of hR (by show 18 + 1 ≤ 1 + 51; decide) (by show 527 + 5 ≤ 7 + 1059; decide)) (by show 18 + 1 ≤ 1000; decide) ?_
  refine z_dup (pc := 47) dX6_init_47 rfl ?_
  refine z_callC (pc := 48) dX6_init_48 lk_X6_35 rfl (by decide) (by decide) rfl (ct_X0 (by decide) rfl (by show 19 + 3 ≤ 1000; decide)) (zcap_of hR (by show 19 + 3 ≤ 1 + 51; decide) (by show 532 + 72 ≤ 7 + 1059; decide)) (by show 19 + 3 ≤ 1000; decide) ⟨rfl, rfl⟩ ?_
  refine z_putF (pc := 51) (j := 4) zc6 dX6_init_51 fl_X6_36 (by decide) rfl rfl rfl rfl ⟨rfl, fun _ => ⟨rfl, rfl⟩⟩ (by decide) rfl ?_
  refine z_aload_n (pc := 54) dX6_init_54 rfl ?_
  refine z_new (pc := 55) zc1 dX6_init_55 nw_X6_40 def_X1 (zcap_of hR (by show 22 + 1 ≤ 1 + 51; decide) (by show 604 + 2 ≤ 7 + 1059; decide)) (by show 22 + 1 ≤ 1000; decide) ?_
  refine z_dup (pc := 58) dX6_init_58 rfl ?_
  refine z_callC (pc := 59) dX6_init_59 lk_X6_42 rfl (by decide) (by decide) rfl (ct_X1 (by decide) rfl (by show 23 + 1 ≤ 1000; decide)) (zcap_of hR (by show 23 + 1 ≤ 1 + 51; decide) (by show 606 + 16 ≤ 7 + 1059; decide)) (by show 23 + 1 ≤ 1000; decide) ⟨rfl, rfl⟩ ?_
  refine z_putF (pc := 62) (j := 5) zc6 dX6_init_62 fl_X6_43 (by decide) rfl rfl rfl rfl ⟨rfl, fun _ => ⟨rfl, rfl⟩⟩ (by decide) rfl ?_
  refine z_iconst (pc := 65) (v := 0) dX6_init_65 ic_0 ?_
  refine z_istore_n (pc := 66) (lv' := [(1, .int 0), (0, .ref 0)]) dX6_init_66 (Nat.le_of_ble_eq_true rfl) rfl ?_
  refine z_iload_n (pc := 67) dX6_init_67 rfl ?_
  refine z_aload_n (pc := 68) dX6_init_68 rfl ?_
  refine z_getr (pc := 69) (j := 0) (k2 := 1) zc6 dX6_init_69 fl_X6_11 (by decide) rfl (by decide) rfl rfl ?_
  refine z_alen (pc := 72) (v := 8) dX6_init_72 (by decide) rfl (by decide) rfl ?_
  refine z_icmp_ge (pc := 73) (t := 95) dX6_init_73 (by decide) (fun c => ?_) (fun c => ?_)
  case refine_1 => exact absurd c (by decide)
  refine z_aload_n (pc := 76) dX6_init_76 rfl ?_
  refine z_getr (pc := 77) (j := 0) (k2 := 1) zc6 dX6_init_77 fl_X6_11 (by decide) rfl (by decide) rfl rfl ?_
  refine z_iload_n (pc := 80) dX6_init_80 rfl ?_
  refine z_new (pc := 81) zc4 dX6_init_81 nw_X6_9 def_X4 (zcap_of hR (by show 24 + 1 ≤ 1 + 51; decide) (by show 622 + 3 ≤ 7 + 1059; decide)) (by show 24 + 1 ≤ 1000; decide) ?_
  refine z_dup (pc := 84) dX6_init_84 rfl ?_
  refine z_callC (pc := 85) dX6_init_85 lk_X6_47 rfl (by decide) (by decide) rfl (ct_X4 (by decide) rfl (by show 25 + 1 ≤ 1000; decide)) (zcap_of hR (by show 25 + 1 ≤ 1 + 51; decide) (by show 625 + 40 ≤ 7 + 1059; decide)) (by show 25 + 1 ≤ 1000; decide) ⟨rfl, rfl⟩ ?_
  refine z_aast (pc := 88) (n := 8) (t := 1) (Or.inr ⟨rfl, rfl⟩) dX6_init_88 (by decide) (by decide) rfl (by unfold vp_in; decide) ?_
  refine z_iinc (pc := 89) (v := 1) (lv' := [(1, .int 1), (0, .ref 0)]) dX6_init_89 rfl (by decide) (Nat.le_of_ble_eq_true rfl) rfl ?_
  refine z_goto (pc := 92) (t := 67) dX6_init_92 (by decide) ?_
  refine z_iload_n (pc := 67) dX6_init_67 rfl ?_
  refine z_aload_n (pc := 68) dX6_init_68 rfl ?_
  refine z_getr (pc := 69) (j := 0) (k2 := 1) zc6 dX6_init_69 fl_X6_11 (by decide) rfl (by decide) rfl rfl ?_
  refine z_alen (pc := 72) (v := 8) dX6_init_72 (by decide) rfl (by decide) rfl ?_
  refine z_icmp_ge (pc := 73) (t := 95) dX6_init_73 (by decide) (fun c => ?_) (fun c => ?_)
  case refine_1 => exact absurd c (by decide)
  refine z_aload_n (pc := 76) dX6_init_76 rfl ?_
  refine z_getr (pc := 77) (j := 0) (k2 := 1) zc6 dX6_init_77 fl_X6_11 (by decide) rfl (by decide) rfl rfl ?_
  refine z_iload_n (pc := 80) dX6_init_80 rfl ?_
  refine z_new (pc := 81) zc4 dX6_init_81 nw_X6_9 def_X4 (zcap_of hR (by show 26 + 1 ≤ 1 + 51; decide) (by show 665 + 3 ≤ 7 + 1059; decide)) (by show 26 + 1 ≤ 1000; decide) ?_
  refine z_dup (pc := 84) dX6_init_84 rfl ?_
  refine z_callC (pc := 85) dX6_init_85 lk_X6_47 rfl (by decide) (by decide) rfl (ct_X4 (by decide) rfl (by show 27 + 1 ≤ 1000; decide)) (zcap_of hR (by show 27 + 1 ≤ 1 + 51; decide) (by show 668 + 40 ≤ 7 + 1059; decide)) (by show 27 + 1 ≤ 1000; decide) ⟨rfl, rfl⟩ ?_
  refine z_aast (pc := 88) (n := 8) (t := 1) (Or.inr ⟨rfl, rfl⟩) dX6_init_88 (by decide) (by decide) rfl (by unfold vp_in; decide) ?_
  refine z_iinc (pc := 89) (v := 2) (lv' := [(1, .int 2), (0, .ref 0)]) dX6_init_89 rfl (by decide) (Nat.le_of_ble_eq_true rfl) rfl ?_
  refine z_goto (pc := 92) (t := 67) dX6_init_92 (by decide) ?_
  refine z_iload_n (pc := 67) dX6_init_67 rfl ?_
  refine z_aload_n (pc := 68) dX6_init_68 rfl ?_
  refine z_getr (pc := 69) (j := 0) (k2 := 1) zc6 dX6_init_69 fl_X6_11 (by decide) rfl (by decide) rfl rfl ?_
  refine z_alen (pc := 72) (v := 8) dX6_init_72 (by decide) rfl (by decide) rfl ?_
  refine z_icmp_ge (pc := 73) (t := 95) dX6_init_73 (by decide) (fun c => ?_) (fun c => ?_)
  case refine_1 => exact absurd c (by decide)
  refine z_aload_n (pc := 76) dX6_init_76 rfl ?_
  refine z_getr (pc := 77) (j := 0) (k2 := 1) zc6 dX6_init_77 fl_X6_11 (by decide) rfl (by decide) rfl rfl ?_
  refine z_iload_n (pc := 80) dX6_init_80 rfl ?_
  refine z_new (pc := 81) zc4 dX6_init_81 nw_X6_9 def_X4 (zcap_of hR (by show 28 + 1 ≤ 1 + 51; decide) (by show 708 + 3 ≤ 7 + 1059; decide)) (by show 28 + 1 ≤ 1000; decide) ?_
  refine z_dup (pc := 84) dX6_init_84 rfl ?_
  refine z_callC (pc := 85) dX6_init_85 lk_X6_47 rfl (by decide) (by decide) rfl (ct_X4 (by decide) rfl (by show 29 + 1 ≤ 1000; decide)) (zcap_of hR (by show 29 + 1 ≤ 1 + 51; decide) (by show 711 + 40 ≤ 7 + 1059; decide)) (by show 29 + 1 ≤ 1000; decide) ⟨rfl, rfl⟩ ?_
  refine z_aast (pc := 88) (n := 8) (t := 1) (Or.inr ⟨rfl, rfl⟩) dX6_init_88 (by decide) (by decide) rfl (by unfold vp_in; decide) ?_
  refine z_iinc (pc := 89) (v := 3) (lv' := [(1, .int 3), (0, .ref 0)]) dX6_init_89 rfl (by decide) (Nat.le_of_ble_eq_true rfl) rfl ?_
  refine z_goto (pc := 92) (t := 67) dX6_init_92 (by decide) ?_
  refine z_iload_n (pc := 67) dX6_init_67 rfl ?_
  refine z_aload_n (pc := 68) dX6_init_68 rfl ?_
  refine z_getr (pc := 69) (j := 0) (k2 := 1) zc6 dX6_init_69 fl_X6_11 (by decide) rfl (by decide) rfl rfl ?_
  refine z_alen (pc := 72) (v := 8) dX6_init_72 (by decide) rfl (by decide) rfl ?_
  refine z_icmp_ge (pc := 73) (t := 95) dX6_init_73 (by decide) (fun c => ?_) (fun c => ?_)
  case refine_1 => exact absurd c (by decide)
  refine z_aload_n (pc := 76) dX6_init_76 rfl ?_
  refine z_getr (pc := 77) (j := 0) (k2 := 1) zc6 dX6_init_77 fl_X6_11 (by decide) rfl (by decide) rfl rfl ?_
  refine z_iload_n (pc := 80) dX6_init_80 rfl ?_
  refine z_new (pc := 81) zc4 dX6_init_81 nw_X6_9 def_X4 (zcap_of hR (by show 30 + 1 ≤ 1 + 51; decide) (by show 751 + 3 ≤ 7 + 1059; decide)) (by show 30 + 1 ≤ 1000; decide) ?_
  refine z_dup (pc := 84) dX6_init_84 rfl ?_
  refine z_callC (pc := 85) dX6_init_85 lk_X6_47 rfl (by decide) (by decide) rfl (ct_X4 (by decide) rfl (by show 31 + 1 ≤ 1000; decide)) (zcap_of hR (by show 31 + 1 ≤ 1 + 51; decide) (by show 754 + 40 ≤ 7 + 1059; decide)) (by show 31 + 1 ≤ 1000; decide) ⟨rfl, rfl⟩ ?_
  refine z_aast (pc := 88) (n := 8) (t := 1) (Or.inr ⟨rfl, rfl⟩) dX6_init_88 (by decide) (by decide) rfl (by unfold vp_in; decide) ?_
  refine z_iinc (pc := 89) (v := 4) (lv' := [(1, .int 4), (0, .ref 0)]) dX6_init_89 rfl (by decide) (Nat.le_of_ble_eq_true rfl) rfl ?_
  refine z_goto (pc := 92) (t := 67) dX6_init_92 (by decide) ?_
  refine z_iload_n (pc := 67) dX6_init_67 rfl ?_
  refine z_aload_n (pc := 68) dX6_init_68 rfl ?_
  refine z_getr (pc := 69) (j := 0) (k2 := 1) zc6 dX6_init_69 fl_X6_11 (by decide) rfl (by decide) rfl rfl ?_
  refine z_alen (pc := 72) (v := 8) dX6_init_72 (by decide) rfl (by decide) rfl ?_
  refine z_icmp_ge (pc := 73) (t := 95) dX6_init_73 (by decide) (fun c => ?_) (fun c => ?_)
  case refine_1 => exact absurd c (by decide)
  refine z_aload_n (pc := 76) dX6_init_76 rfl ?_
  refine z_getr (pc := 77) (j := 0) (k2 := 1) zc6 dX6_init_77 fl_X6_11 (by decide) rfl (by decide) rfl rfl ?_
  refine z_iload_n (pc := 80) dX6_init_80 rfl ?_
  refine z_new (pc := 81) zc4 dX6_init_81 nw_X6_9 def_X4 (zcap_of hR (by show 32 + 1 ≤ 1 + 51; decide) (by show 794 + 3 ≤ 7 + 1059; decide)) (by show 32 + 1 ≤ 1000; decide) ?_
  refine z_dup (pc := 84) dX6_init_84 rfl ?_
  refine z_callC (pc := 85) dX6_init_85 lk_X6_47 rfl (by decide) (by decide) rfl (ct_X4 (by decide) rfl (by show 33 + 1 ≤ 1000; decide)) (zcap_of hR (by show 33 + 1 ≤ 1 + 51; decide) (by show 797 + 40 ≤ 7 + 1059; decide)) (by show 33 + 1 ≤ 1000; decide) ⟨rfl, rfl⟩ ?_
  refine z_aast (pc := 88) (n := 8) (t := 1) (Or.inr ⟨rfl, rfl⟩) dX6_init_88 (by decide) (by decide) rfl (by unfold vp_in; decide) ?_
  refine z_iinc (pc := 89) (v := 5) (lv' := [(1, .int 5), (0, .ref 0)]) dX6_init_89 rfl (by decide) (Nat.le_of_ble_eq_true rfl) rfl ?_
  refine z_goto (pc := 92) (t := 67) dX6_init_92 (by decide) ?_
  refine z_iload_n (pc := 67) dX6_init_67 rfl ?_
  refine z_aload_n (pc := 68) dX6_init_68 rfl ?_
  refine z_getr (pc := 69) (j := 0) (k2 := 1) zc6 dX6_init_69 fl_X6_11 (by decide) rfl (by decide) rfl rfl ?_
  refine z_alen (pc := 72) (v := 8) dX6_init_72 (by decide) rfl (by decide) rfl ?_
  refine z_icmp_ge (pc := 73) (t := 95) dX6_init_73 (by decide) (fun c => ?_) (fun c => ?_)
  case refine_1 => exact absurd c (by decide)
  refine z_aload_n (pc := 76) dX6_init_76 rfl ?_
  refine z_getr (pc := 77) (j := 0) (k2 := 1) zc6 dX6_init_77 fl_X6_11 (by decide) rfl (by decide) rfl rfl ?_
  refine z_iload_n (pc := 80) dX6_init_80 rfl ?_
  refine z_new (pc := 81) zc4 dX6_init_81 nw_X6_9 def_X4 (zcap_of hR (by show 34 + 1 ≤ 1 + 51; decide) (by show 837 + 3 ≤ 7 + 1059; decide)) (by show 34 + 1 ≤ 1000; decide) ?_
  refine z_dup (pc := 84) dX6_init_84 rfl ?_
  refine z_callC (pc := 85) dX6_init_85 lk_X6_47 rfl (by decide) (by decide) rfl (ct_X4 (by decide) rfl (by show 35 + 1 ≤ 1000; decide)) (zcap_of hR (by show 35 + 1 ≤ 1 + 51; decide) (by show 840 + 40 ≤ 7 + 1059; decide)) (by show 35 + 1 ≤ 1000; decide) ⟨rfl, rfl⟩ ?_
  refine z_aast (pc := 88) (n := 8) (t := 1) (Or.inr ⟨rfl, rfl⟩) dX6_init_88 (by decide) (by decide) rfl (by unfold vp_in; decide) ?_
  refine z_iinc (pc := 89) (v := 6) (lv' := [(1, .int 6), (0, .ref 0)]) dX6_init_89 rfl (by decide) (Nat.le_of_ble_eq_true rfl) rfl ?_
  refine z_goto (pc := 92) (t := 67) dX6_init_92 (by decide) ?_
  refine z_iload_n (pc := 67) dX6_init_67 rfl ?_
  refine z_aload_n (pc := 68) dX6_init_68 rfl ?_
  refine z_getr (pc := 69) (j := 0) (k2 := 1) zc6 dX6_init_69 fl_X6_11 (by decide) rfl (by decide) rfl rfl ?_
  refine z_alen (pc := 72) (v := 8) dX6_init_72 (by decide) rfl (by decide) rfl ?_
  refine z_icmp_ge (pc := 73) (t := 95) dX6_init_73 (by decide) (fun c => ?_) (fun c => ?_)
  case refine_1 => exact absurd c (by decide)
  refine z_aload_n (pc := 76) dX6_init_76 rfl ?_
  refine z_getr (pc := 77) (j := 0) (k2 := 1) zc6 dX6_init_77 fl_X6_11 (by decide) rfl (by decide) rfl rfl ?_
  refine z_iload_n (pc := 80) dX6_init_80 rfl ?_
  refine z_new (pc := 81) zc4 dX6_init_81 nw_X6_9 def_X4 (zcap_of hR (by show 36 + 1 ≤ 1 + 51; decide) (by show 880 + 3 ≤ 7 + 1059; decide)) (by show 36 + 1 ≤ 1000; decide) ?_
  refine z_dup (pc := 84) dX6_init_84 rfl ?_
  refine z_callC (pc := 85) dX6_init_85 lk_X6_47 rfl (by decide) (by decide) rfl (ct_X4 (by decide) rfl (by show 37 + 1 ≤ 1000; decide)) (zcap_of hR (by show 37 + 1 ≤ 1 + 51; decide) (by show 883 + 40 ≤ 7 + 1059; decide)) (by show 37 + 1 ≤ 1000; decide) ⟨rfl, rfl⟩ ?_
  refine z_aast (pc := 88) (n := 8) (t := 1) (Or.inr ⟨rfl, rfl⟩) dX6_init_88 (by decide) (by decide) rfl (by unfold vp_in; decide) ?_
  refine z_iinc (pc := 89) (v := 7) (lv' := [(1, .int 7), (0, .ref 0)]) dX6_init_89 rfl (by decide) (Nat.le_of_ble_eq_true rfl) rfl ?_
  refine z_goto (pc := 92) (t := 67) dX6_init_92 (by decide) ?_
  refine z_iload_n (pc := 67) dX6_init_67 rfl ?_
  refine z_aload_n (pc := 68) dX6_init_68 rfl ?_
  refine z_getr (pc := 69) (j := 0) (k2 := 1) zc6 dX6_init_69 fl_X6_11 (by decide) rfl (by decide) rfl rfl ?_
  refine z_alen (pc := 72) (v := 8) dX6_init_72 (by decide) rfl (by decide) rfl ?_
  refine z_icmp_ge (pc := 73) (t := 95) dX6_init_73 (by decide) (fun c => ?_) (fun c => ?_)
  case refine_1 => exact absurd c (by decide)
  refine z_aload_n (pc := 76) dX6_init_76 rfl ?_
  refine z_getr (pc := 77) (j := 0) (k2 := 1) zc6 dX6_init_77 fl_X6_11 (by decide) rfl (by decide) rfl rfl ?_
  refine z_iload_n (pc := 80) dX6_init_80 rfl ?_
  refine z_new (pc := 81) zc4 dX6_init_81 nw_X6_9 def_X4 (zcap_of hR (by show 38 + 1 ≤ 1 + 51; decide) (by show 923 + 3 ≤ 7 + 1059; decide)) (by show 38 + 1 ≤ 1000; decide) ?_
  refine z_dup (pc := 84) dX6_init_84 rfl ?_
  refine z_callC (pc := 85) dX6_init_85 lk_X6_47 rfl (by decide) (by decide) rfl (ct_X4 (by decide) rfl (by show 39 + 1 ≤ 1000; decide)) (zcap_of hR (by show 39 + 1 ≤ 1 + 51; decide) (by show 926 + 40 ≤ 7 + 1059; decide)) (by show 39 + 1 ≤ 1000; decide) ⟨rfl, rfl⟩ ?_
  refine z_aast (pc := 88) (n := 8) (t := 1) (Or.inr ⟨rfl, rfl⟩) dX6_init_88 (by decide) (by decide) rfl (by unfold vp_in; decide) ?_
  refine z_iinc (pc := 89) (v := 8) (lv' := [(1, .int 8), (0, .ref 0)]) dX6_init_89 rfl (by decide) (Nat.le_of_ble_eq_true rfl) rfl ?_
  refine z_goto (pc := 92) (t := 67) dX6_init_92 (by decide) ?_
  refine z_iload_n (pc := 67) dX6_init_67 rfl ?_
  refine z_aload_n (pc := 68) dX6_init_68 rfl ?_
  refine z_getr (pc := 69) (j := 0) (k2 := 1) zc6 dX6_init_69 fl_X6_11 (by decide) rfl (by decide) rfl rfl ?_
  refine z_alen (pc := 72) (v := 8) dX6_init_72 (by decide) rfl (by decide) rfl ?_
  refine z_icmp_ge (pc := 73) (t := 95) dX6_init_73 (by decide) (fun c => ?_) (fun c => ?_)
  case refine_2 => exact absurd c (by decide)
  refine z_iconst (pc := 95) (v := 0) dX6_init_95 ic_0 ?_
  refine z_istore_n (pc := 96) (lv' := [(1, .int 0), (0, .ref 0)]) dX6_init_96 (Nat.le_of_ble_eq_true rfl) rfl ?_
  refine z_iload_n (pc := 97) dX6_init_97 rfl ?_
  refine z_aload_n (pc := 98) dX6_init_98 rfl ?_
  refine z_getr (pc := 99) (j := 1) (k2 := 2) zc6 dX6_init_99 fl_X6_17 (by decide) rfl (by decide) rfl rfl ?_
  refine z_alen (pc := 102) (v := 2) dX6_init_102 (by decide) rfl (by decide) rfl ?_
  refine z_icmp_ge (pc := 103) (t := 125) dX6_init_103 (by decide) (fun c => ?_) (fun c => ?_)
  case refine_1 => exact absurd c (by decide)
  refine z_aload_n (pc := 106) dX6_init_106 rfl ?_
  refine z_getr (pc := 107) (j := 1) (k2 := 2) zc6 dX6_init_107 fl_X6_17 (by decide) rfl (by decide) rfl rfl ?_
  refine z_iload_n (pc := 110) dX6_init_110 rfl ?_
  refine z_new (pc := 111) zc2 dX6_init_111 nw_X6_15 def_X2 (zcap_of hR (by show 40 + 1 ≤ 1 + 51; decide) (by show 966 + 8 ≤ 7 + 1059; decide)) (by show 40 + 1 ≤ 1000; decide) ?_
  refine z_dup (pc := 114) dX6_init_114 rfl ?_
  refine z_callC (pc := 115) dX6_init_115 lk_X6_28 rfl (by decide) (by decide) rfl (ct_X2 (by decide) rfl (by show 41 + 5 ≤ 1000; decide)) (zcap_of hR (by show 41 + 5 ≤ 1 + 51; decide) (by show 974 + 42 ≤ 7 + 1059; decide)) (by show 41 + 5 ≤ 1000; decide) ⟨rfl, rfl⟩ ?_
  refine z_aast (pc := 118) (n := 2) (t := 0) (Or.inl ⟨rfl, rfl⟩) dX6_init_118 (by decide) (by decide) rfl (by unfold vp_in; decide) ?_
  refine z_iinc (pc := 119) (v := 1) (lv' := [(1, .int 1), (0, .ref 0)]) dX6_init_119 rfl (by decide) (Nat.le_of_ble_eq_true rfl) rfl ?_
  refine z_goto (pc := 122) (t := 97) dX6_init_122 (by decide) ?_
  refine z_iload_n (pc := 97) dX6_init_97 rfl ?_
  refine z_aload_n (pc := 98) dX6_init_98 rfl ?_
  refine z_getr (pc := 99) (j := 1) (k2 := 2) zc6 dX6_init_99 fl_X6_17 (by decide) rfl (by decide) rfl rfl ?_
  refine z_alen (pc := 102) (v := 2) dX6_init_102 (by decide) rfl (by decide) rfl ?_
  refine z_icmp_ge (pc := 103) (t := 125) dX6_init_103 (by decide) (fun c => ?_) (fun c => ?_)
  case refine_1 => exact absurd c (by decide)
  refine z_aload_n (pc := 106) dX6_init_106 rfl ?_
  refine z_getr (pc := 107) (j := 1) (k2 := 2) zc6 dX6_init_107 fl_X6_17 (by decide) rfl (by decide) rfl rfl ?_
  refine z_iload_n (pc := 110) dX6_init_110 rfl ?_
  refine z_new (pc := 111) zc2 dX6_init_111 nw_X6_15 def_X2 (zcap_of hR (by show 46 + 1 ≤ 1 + 51; decide) (by show 1016 + 8 ≤ 7 + 1059; decide)) (by show 46 + 1 ≤ 1000; decide) ?_
  refine z_dup (pc := 114) dX6_init_114 rfl ?_
  refine z_callC (pc := 115) dX6_init_115 lk_X6_28 rfl (by decide) (by decide) rfl (ct_X2 (by decide) rfl (by show 47 + 5 ≤ 1000; decide)) (zcap_of hR (by show 47 + 5 ≤ 1 + 51; decide) (by show 1024 + 42 ≤ 7 + 1059; decide)) (by show 47 + 5 ≤ 1000; decide) ⟨rfl, rfl⟩ ?_
  refine z_aast (pc := 118) (n := 2) (t := 0) (Or.inl ⟨rfl, rfl⟩) dX6_init_118 (by decide) (by decide) rfl (by unfold vp_in; decide) ?_
  refine z_iinc (pc := 119) (v := 2) (lv' := [(1, .int 2), (0, .ref 0)]) dX6_init_119 rfl (by decide) (Nat.le_of_ble_eq_true rfl) rfl ?_
  refine z_goto (pc := 122) (t := 97) dX6_init_122 (by decide) ?_
  refine z_iload_n (pc := 97) dX6_init_97 rfl ?_
  refine z_aload_n (pc := 98) dX6_init_98 rfl ?_
  refine z_getr (pc := 99) (j := 1) (k2 := 2) zc6 dX6_init_99 fl_X6_17 (by decide) rfl (by decide) rfl rfl ?_
  refine z_alen (pc := 102) (v := 2) dX6_init_102 (by decide) rfl (by decide) rfl ?_
  refine z_icmp_ge (pc := 103) (t := 125) dX6_init_103 (by decide) (fun c => ?_) (fun c => ?_)
  case refine_2 => exact absurd c (by decide)
  exact z_vret hR (pc := 125) dX6_init_125 rfl ⟨rfl, rfl⟩
def zS2 : zS := znew tX6 (7, 0) 25
def tX7 : zS := (zsetr (znew (zsetr (znew (zsetr (znew (zsetr (znew (zsetr (znew (zsetr (znew (zsetr (znew (zsetr (znew (zsetr (znew (zsetr (zset (zset (zset (zset (zset (zset (zset (zset (znew zS2 (8, 8) 8) 53 (Int32.toNatClampNeg 0) (-1)) 53 (Int32.toNatClampNeg 1) (-1)) 53 (Int32.toNatClampNeg 2) (-1)) 53 (Int32.toNatClampNeg 3) (-1)) 53 (Int32.toNatClampNeg 4) (-1)) 53 (Int32.toNatClampNeg 5) (-1)) 53 (Int32.toNatClampNeg 6) (-1)) 53 (Int32.toNatClampNeg 7) (-1)) 52 2 (some 53)) (8, 8) 8) 52 3 (some 54)) (8, 320) 320) 52 4 (some 55)) (8, 37) 37) 52 5 (some 56)) (8, 37) 37) 52 6 (some 57)) (8, 888) 888) 52 7 (some 58)) (8, 400) 400) 52 9 (some 59)) (9, 2) 2) 52 21 (some 60)) (8, 74) 74) 52 22 (some 61)) (8, 16) 16) 52 23 (some 62))
set_option maxRecDepth 100000 in
set_option maxHeartbeats 4000000 in
theorem ct_X7 : zM mX7_init 10 1790 [.ref 52] zS2 (fun v S' => v = none ∧ S' = tX7) := by
  refine zM_of (by decide) (Nat.le_of_ble_eq_true rfl) (by show 53 ≤ 1000; decide) (fun X hR => ?_)
  refine z_aload_n (pc := 0) dX7_init_0 rfl ?_
  refine z_objInit (pc := 1) dX7_init_1 lk_X7_1 (by decide) rfl ?_
  refine z_aload_n (pc := 4) dX7_init_4 rfl ?_
  refine z_bipush (pc := 5) (v := 8) dX7_init_5 bi_8 ?_
  refine z_newaT (pc := 7) (t := 0) (n := 8) (at1 := .int) (ty1 := .int) (Or.inl ⟨rfl, rfl, rfl⟩) dX7_init_7 ar_int (by decide) (by decide) (by decide) (zcap_of hR (by show 53 + 1 ≤ 53 + 10; decide) (by show 1091 + 8 ≤ 1091 + 1790; decide)) (by show 53 + 1 ≤ 1000; decide) ?_
  refine z_dup (pc := 9) dX7_init_9 rfl ?_
  refine z_iconst (pc := 10) (v := 0) dX7_init_10 ic_0 ?_
  refine z_iconst (pc := 11) (v := -1) dX7_init_11 ic_m1 ?_
  refine z_iast (pc := 12) (n := 8) dX7_init_12 (by decide) rfl (by unfold vp_in; decide) ?_
  refine z_dup (pc := 13) dX7_init_13 rfl ?_
  refine z_iconst (pc := 14) (v := 1) dX7_init_14 ic_1 ?_
  refine z_iconst (pc := 15) (v := -1) dX7_init_15 ic_m1 ?_
  refine z_iast (pc := 16) (n := 8) dX7_init_16 (by decide) rfl (by unfold vp_in; decide) ?_
  refine z_dup (pc := 17) dX7_init_17 rfl ?_
  refine z_iconst (pc := 18) (v := 2) dX7_init_18 ic_2 ?_
  refine z_iconst (pc := 19) (v := -1) dX7_init_19 ic_m1 ?_
  refine z_iast (pc := 20) (n := 8) dX7_init_20 (by decide) rfl (by unfold vp_in; decide) ?_
  refine z_dup (pc := 21) dX7_init_21 rfl ?_
  refine z_iconst (pc := 22) (v := 3) dX7_init_22 ic_3 ?_
  refine z_iconst (pc := 23) (v := -1) dX7_init_23 ic_m1 ?_
  refine z_iast (pc := 24) (n := 8) dX7_init_24 (by decide) rfl (by unfold vp_in; decide) ?_
  refine z_dup (pc := 25) dX7_init_25 rfl ?_
  refine z_iconst (pc := 26) (v := 4) dX7_init_26 ic_4 ?_
  refine z_iconst (pc := 27) (v := -1) dX7_init_27 ic_m1 ?_
  refine z_iast (pc := 28) (n := 8) dX7_init_28 (by decide) rfl (by unfold vp_in; decide) ?_
  refine z_dup (pc := 29) dX7_init_29 rfl ?_
  refine z_iconst (pc := 30) (v := 5) dX7_init_30 ic_5 ?_
  refine z_iconst (pc := 31) (v := -1) dX7_init_31 ic_m1 ?_
  refine z_iast (pc := 32) (n := 8) dX7_init_32 (by decide) rfl (by unfold vp_in; decide) ?_
  refine z_dup (pc := 33) dX7_init_33 rfl ?_
  refine z_bipush (pc := 34) (v := 6) dX7_init_34 bi_6 ?_
  refine z_iconst (pc := 36) (v := -1) dX7_init_36 ic_m1 ?_
  refine z_iast (pc := 37) (n := 8) dX7_init_37 (by decide) rfl (by unfold vp_in; decide) ?_
  refine z_dup (pc := 38) dX7_init_38 rfl ?_
  refine z_bipush (pc := 39) (v := 7) dX7_init_39 bi_7 ?_
  refine z_iconst (pc := 41) (v := -1) dX7_init_41 ic_m1 ?_
  refine z_iast (pc := 42) (n := 8) dX7_init_42 (by decide) rfl (by unfold vp_in; decide) ?_
  refine z_putF (pc := 43) (j := 2) zc7 dX7_init_43 fl_X7_7 (by decide) rfl rfl rfl rfl ⟨rfl, fun _ => ⟨rfl, rfl⟩⟩ (by decide) rfl ?_
  refine z_aload_n (pc := 46) dX7_init_46 rfl ?_
  refine z_bipush (pc := 47) (v := 8) dX7_init_47 bi_8 ?_
  refine z_newaT (pc := 49) (t := 0) (n := 8) (at1 := .int) (ty1 := .int) (Or.inl ⟨rfl, rfl, rfl⟩) dX7_init_49 ar_int (by decide) (by decide) (by decide) (zcap_of hR (by show 54 + 1 ≤ 53 + 10; decide) (by show 1099 + 8 ≤ 1091 + 1790; decide)) (by show 54 + 1 ≤ 1000; decide) ?_
  refine z_putF (pc := 51) (j := 3) zc7 dX7_init_51 fl_X7_13 (by decide) rfl rfl rfl rfl ⟨rfl, fun _ => ⟨rfl, rfl⟩⟩ (by decide) rfl ?_
  refine z_aload_n (pc := 54) dX7_init_54 rfl ?_
  refine z_sipush (pc := 55) (v := 320) dX7_init_55 si_320 ?_
  refine z_newaT (pc := 58) (t := 0) (n := 320) (at1 := .int) (ty1 := .int) (Or.inl ⟨rfl, rfl, rfl⟩) dX7_init_58 ar_int (by decide) (by decide) (by decide) (zcap_of hR (by show 55 + 1 ≤ 53 + 10; decide) (by show 1107 + 320 ≤ 1091 + 1790; decide)) (by show 55 + 1 ≤ 1000; decide) ?_
  refine z_putF (pc := 60) (j := 4) zc7 dX7_init_60 fl_X7_16 (by decide) rfl rfl rfl rfl ⟨rfl, fun _ => ⟨rfl, rfl⟩⟩ (by decide) rfl ?_
  refine z_aload_n (pc := 63) dX7_init_63 rfl ?_
  refine z_bipush (pc := 64) (v := 37) dX7_init_64 bi_37 ?_
  refine z_newaT (pc := 66) (t := 0) (n := 37) (at1 := .int) (ty1 := .int) (Or.inl ⟨rfl, rfl, rfl⟩) dX7_init_66 ar_int (by decide) (by decide) (by decide) (zcap_of hR (by show 56 + 1 ≤ 53 + 10; decide) (by show 1427 + 37 ≤ 1091 + 1790; decide)) (by show 56 + 1 ≤ 1000; decide) ?_
  refine z_putF (pc := 68) (j := 5) zc7 dX7_init_68 fl_X7_19 (by decide) rfl rfl rfl rfl ⟨rfl, fun _ => ⟨rfl, rfl⟩⟩ (by decide) rfl ?_
  refine z_aload_n (pc := 71) dX7_init_71 rfl ?_
  refine z_bipush (pc := 72) (v := 37) dX7_init_72 bi_37 ?_
  refine z_newaT (pc := 74) (t := 0) (n := 37) (at1 := .int) (ty1 := .int) (Or.inl ⟨rfl, rfl, rfl⟩) dX7_init_74 ar_int (by decide) (by decide) (by decide) (zcap_of hR (by show 57 + 1 ≤ 53 + 10; decide) (by show 1464 + 37 ≤ 1091 + 1790; decide)) (by show 57 + 1 ≤ 1000; decide) ?_
  refine z_putF (pc := 76) (j := 6) zc7 dX7_init_76 fl_X7_22 (by decide) rfl rfl rfl rfl ⟨rfl, fun _ => ⟨rfl, rfl⟩⟩ (by decide) rfl ?_
  refine z_aload_n (pc := 79) dX7_init_79 rfl ?_
  refine z_sipush (pc := 80) (v := 888) dX7_init_80 si_888 ?_
  refine z_newaT (pc := 83) (t := 0) (n := 888) (at1 := .int) (ty1 := .int) (Or.inl ⟨rfl, rfl, rfl⟩) dX7_init_83 ar_int (by decide) (by decide) (by decide) (zcap_of hR (by show 58 + 1 ≤ 53 + 10; decide) (by show 1501 + 888 ≤ 1091 + 1790; decide)) (by show 58 + 1 ≤ 1000; decide) ?_
  refine z_putF (pc := 85) (j := 7) zc7 dX7_init_85 fl_X7_25 (by decide) rfl rfl rfl rfl ⟨rfl, fun _ => ⟨rfl, rfl⟩⟩ (by decide) rfl ?_
  refine z_aload_n (pc := 88) dX7_init_88 rfl ?_
  refine z_sipush (pc := 89) (v := 400) dX7_init_89 si_400 ?_
  refine z_newaT (pc := 92) (t := 0) (n := 400) (at1 := .int) (ty1 := .int) (Or.inl ⟨rfl, rfl, rfl⟩) dX7_init_92 ar_int (by decide) (by decide) (by decide) (zcap_of hR (by show 59 + 1 ≤ 53 + 10; decide) (by show 2389 + 400 ≤ 1091 + 1790; decide)) (by show 59 + 1 ≤ 1000; decide) ?_
  refine z_putF (pc := 94) (j := 9) zc7 dX7_init_94 fl_X7_28 (by decide) rfl rfl rfl rfl ⟨rfl, fun _ => ⟨rfl, rfl⟩⟩ (by decide) rfl ?_
  refine z_aload_n (pc := 97) dX7_init_97 rfl ?_
  refine z_iconst (pc := 98) (v := 2) dX7_init_98 ic_2 ?_
  refine z_newaT (pc := 99) (t := 1) (n := 2) (at1 := .boolean) (ty1 := .boolean) (Or.inr ⟨rfl, rfl, rfl⟩) dX7_init_99 ar_bool (by decide) (by decide) (by decide) (zcap_of hR (by show 60 + 1 ≤ 53 + 10; decide) (by show 2789 + 2 ≤ 1091 + 1790; decide)) (by show 60 + 1 ≤ 1000; decide) ?_
  refine z_putF (pc := 101) (j := 21) zc7 dX7_init_101 fl_X7_31 (by decide) rfl rfl rfl rfl ⟨rfl, fun _ => ⟨rfl, rfl⟩⟩ (by decide) rfl ?_
  refine z_aload_n (pc := 104) dX7_init_104 rfl ?_
  refine z_bipush (pc := 105) (v := 74) dX7_init_105 bi_74 ?_
  refine z_newaT (pc := 107) (t := 0) (n := 74) (at1 := .int) (ty1 := .int) (Or.inl ⟨rfl, rfl, rfl⟩) dX7_init_107 ar_int (by decide) (by decide) (by decide) (zcap_of hR (by show 61 + 1 ≤ 53 + 10; decide) (by show 2791 + 74 ≤ 1091 + 1790; decide)) (by show 61 + 1 ≤ 1000; decide) ?_
  refine z_putF (pc := 109) (j := 22) zc7 dX7_init_109 fl_X7_35 (by decide) rfl rfl rfl rfl ⟨rfl, fun _ => ⟨rfl, rfl⟩⟩ (by decide) rfl ?_
  refine z_aload_n (pc := 112) dX7_init_112 rfl ?_
  refine z_bipush (pc := 113) (v := 16) dX7_init_113 bi_16 ?_
  refine z_newaT (pc := 115) (t := 0) (n := 16) (at1 := .int) (ty1 := .int) (Or.inl ⟨rfl, rfl, rfl⟩) dX7_init_115 ar_int (by decide) (by decide) (by decide) (zcap_of hR (by show 62 + 1 ≤ 53 + 10; decide) (by show 2865 + 16 ≤ 1091 + 1790; decide)) (by show 62 + 1 ≤ 1000; decide) ?_
  refine z_putF (pc := 117) (j := 23) zc7 dX7_init_117 fl_X7_38 (by decide) rfl rfl rfl rfl ⟨rfl, fun _ => ⟨rfl, rfl⟩⟩ (by decide) rfl ?_
  exact z_vret hR (pc := 120) dX7_init_120 rfl ⟨rfl, rfl⟩
