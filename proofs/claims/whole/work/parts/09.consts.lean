/-! ===== constants; switches of each size ===== -/
theorem z_tswL {X : zX} {M : zMt} {pc : Nat} {lv : List (Nat × Value)} {st : List Value} {S : zS} {dflt hi lo0 : Int} {offs : Array Int} {len : Nat} {x : Int32} (lo : Nat) (tg : List Nat) (dt : Nat) (hd : decode M.2.1 pc = .ok (.tableswitch dflt lo0 hi offs, len)) (hh : lo0 = (lo : Int) ∧ hi = (lo : Int) + (tg.length : Int) - 1) (ho : offs.toList.map (fun o => (pc : Int) + o) = tg.map (fun t : Nat => (t : Int))) (hdt : (pc : Int) + dflt = (dt : Int)) (hn : lo + tg.length < 1000)
    (kt : ∀ (i t : Nat), tg[i]? = some t → x = nI (lo + i) → Z X M t lv st S) (kf : (∀ i, i < tg.length → ¬ x = nI (lo + i)) → Z X M dt lv st S) : Z X M pc lv (.int x :: st) S := by
  obtain ⟨rfl, rfl⟩ := hh
  obtain ⟨p, l, e, R, s, m, args, below, meth, c, E, n0, z0, Q⟩ := X
  intro ok cap H locs ls hP hS hl
  by_cases h : ∃ i, i < tg.length ∧ x = nI (lo + i)
  · obtain ⟨i, hi, rfl⟩ := h
    have e : (nI (lo + i)).toInt = ((lo + i : Nat) : Int) := nI_toInt (by omega)
    have h2 : (offs.toList.map (fun o => (pc : Int) + o))[i]? = some ((tg[i] : Nat) : Int) := by
      rw [ho, List.getElem?_map, List.getElem?_eq_getElem hi]
      rfl
    rw [List.getElem?_map] at h2
    obtain ⟨off, h3, h4⟩ := Option.map_eq_some_iff.mp h2
    refine lv_tableIn (off := off) (tgt := tg[i]) ok.1 ok.2.1 hd (by rw [e]; omega) (by rw [e]; omega) ?_ h4 (kt i tg[i] (List.getElem?_eq_getElem hi) rfl ok cap H locs ls hP hS hl)
    rw [e, show (((lo + i : Nat) : Int) - (lo : Int)).toNat = i by omega]
    simpa using h3
  · have h5 : ∀ i, i < tg.length → ¬ x = nI (lo + i) := fun i hi e => h ⟨i, hi, e⟩
    refine lv_tableOut (tgt := dt) ok.1 ok.2.1 hd ?_ hdt (kf h5 ok cap H locs ls hP hS hl)
    by_cases q : x.toInt < lo
    · exact Or.inl q
    · right
      apply Int.lt_of_not_ge
      intro q2
      refine h5 (x.toInt.toNat - lo) (by omega) ?_
      apply Int32.toInt_inj.mp
      rw [nI_toInt (by omega)]
      omega
theorem z_tsw3_0 {X : zX} {M : zMt} {pc : Nat} {lv : List (Nat × Value)} {st : List Value} {S : zS} {dflt hi : Int} {offs : Array Int} {len : Nat} {x : Int32} (t0 t1 t2 dt : Nat) (hd : decode M.2.1 pc = .ok (.tableswitch dflt 0 hi offs, len)) (hh : hi = 2) (ho : offs.toList.map (fun o => (pc : Int) + o) = [t0, t1, t2].map (fun t : Nat => (t : Int))) (hdt : (pc : Int) + dflt = (dt : Int)) (k0 : x = 0 → Z X M t0 lv st S) (k1 : x = 1 → Z X M t1 lv st S) (k2 : x = 2 → Z X M t2 lv st S) (kd : ¬ x = 0 → ¬ x = 1 → ¬ x = 2 → Z X M dt lv st S) : Z X M pc lv (.int x :: st) S := by
  subst hh
  refine z_tswL 0 [t0, t1, t2] dt hd ⟨rfl, rfl⟩ ho hdt (Nat.le_of_ble_eq_true rfl) (fun i t hi hx => ?_) (fun hx => ?_)
  · match i, hi with
    | 0, hi => exact Option.some.inj hi ▸ k0 hx
    | 1, hi => exact Option.some.inj hi ▸ k1 hx
    | 2, hi => exact Option.some.inj hi ▸ k2 hx
    | i + 3, hi => exact absurd hi (by simp)
  · exact kd (hx 0 (Nat.le_of_ble_eq_true rfl)) (hx 1 (Nat.le_of_ble_eq_true rfl)) (hx 2 (Nat.le_of_ble_eq_true rfl))

theorem z_tsw3_3 {X : zX} {M : zMt} {pc : Nat} {lv : List (Nat × Value)} {st : List Value} {S : zS} {dflt hi : Int} {offs : Array Int} {len : Nat} {x : Int32} (t0 t1 t2 dt : Nat) (hd : decode M.2.1 pc = .ok (.tableswitch dflt 3 hi offs, len)) (hh : hi = 5) (ho : offs.toList.map (fun o => (pc : Int) + o) = [t0, t1, t2].map (fun t : Nat => (t : Int))) (hdt : (pc : Int) + dflt = (dt : Int)) (k0 : x = 3 → Z X M t0 lv st S) (k1 : x = 4 → Z X M t1 lv st S) (k2 : x = 5 → Z X M t2 lv st S) (kd : ¬ x = 3 → ¬ x = 4 → ¬ x = 5 → Z X M dt lv st S) : Z X M pc lv (.int x :: st) S := by
  subst hh
  refine z_tswL 3 [t0, t1, t2] dt hd ⟨rfl, rfl⟩ ho hdt (Nat.le_of_ble_eq_true rfl) (fun i t hi hx => ?_) (fun hx => ?_)
  · match i, hi with
    | 0, hi => exact Option.some.inj hi ▸ k0 hx
    | 1, hi => exact Option.some.inj hi ▸ k1 hx
    | 2, hi => exact Option.some.inj hi ▸ k2 hx
    | i + 3, hi => exact absurd hi (by simp)
  · exact kd (hx 0 (Nat.le_of_ble_eq_true rfl)) (hx 1 (Nat.le_of_ble_eq_true rfl)) (hx 2 (Nat.le_of_ble_eq_true rfl))

theorem z_tsw6_0 {X : zX} {M : zMt} {pc : Nat} {lv : List (Nat × Value)} {st : List Value} {S : zS} {dflt hi : Int} {offs : Array Int} {len : Nat} {x : Int32} (t0 t1 t2 t3 t4 t5 dt : Nat) (hd : decode M.2.1 pc = .ok (.tableswitch dflt 0 hi offs, len)) (hh : hi = 5) (ho : offs.toList.map (fun o => (pc : Int) + o) = [t0, t1, t2, t3, t4, t5].map (fun t : Nat => (t : Int))) (hdt : (pc : Int) + dflt = (dt : Int)) (k0 : x = 0 → Z X M t0 lv st S) (k1 : x = 1 → Z X M t1 lv st S) (k2 : x = 2 → Z X M t2 lv st S) (k3 : x = 3 → Z X M t3 lv st S) (k4 : x = 4 → Z X M t4 lv st S) (k5 : x = 5 → Z X M t5 lv st S) (kd : ¬ x = 0 → ¬ x = 1 → ¬ x = 2 → ¬ x = 3 → ¬ x = 4 → ¬ x = 5 → Z X M dt lv st S) : Z X M pc lv (.int x :: st) S := by
  subst hh
  refine z_tswL 0 [t0, t1, t2, t3, t4, t5] dt hd ⟨rfl, rfl⟩ ho hdt (Nat.le_of_ble_eq_true rfl) (fun i t hi hx => ?_) (fun hx => ?_)
  · match i, hi with
    | 0, hi => exact Option.some.inj hi ▸ k0 hx
    | 1, hi => exact Option.some.inj hi ▸ k1 hx
    | 2, hi => exact Option.some.inj hi ▸ k2 hx
    | 3, hi => exact Option.some.inj hi ▸ k3 hx
    | 4, hi => exact Option.some.inj hi ▸ k4 hx
    | 5, hi => exact Option.some.inj hi ▸ k5 hx
    | i + 6, hi => exact absurd hi (by simp)
  · exact kd (hx 0 (Nat.le_of_ble_eq_true rfl)) (hx 1 (Nat.le_of_ble_eq_true rfl)) (hx 2 (Nat.le_of_ble_eq_true rfl)) (hx 3 (Nat.le_of_ble_eq_true rfl)) (hx 4 (Nat.le_of_ble_eq_true rfl)) (hx 5 (Nat.le_of_ble_eq_true rfl))
theorem bi_6 : (Int8.ofInt (6)).toInt32 = 6 := by decide
theorem bi_8 : (Int8.ofInt (8)).toInt32 = 8 := by decide
theorem bi_9 : (Int8.ofInt (9)).toInt32 = 9 := by decide
theorem bi_10 : (Int8.ofInt (10)).toInt32 = 10 := by decide
theorem bi_11 : (Int8.ofInt (11)).toInt32 = 11 := by decide
theorem bi_12 : (Int8.ofInt (12)).toInt32 = 12 := by decide
theorem bi_13 : (Int8.ofInt (13)).toInt32 = 13 := by decide
theorem bi_14 : (Int8.ofInt (14)).toInt32 = 14 := by decide
theorem bi_16 : (Int8.ofInt (16)).toInt32 = 16 := by decide
theorem bi_19 : (Int8.ofInt (19)).toInt32 = 19 := by decide
theorem bi_20 : (Int8.ofInt (20)).toInt32 = 20 := by decide
theorem bi_21 : (Int8.ofInt (21)).toInt32 = 21 := by decide
theorem bi_22 : (Int8.ofInt (22)).toInt32 = 22 := by decide
theorem bi_23 : (Int8.ofInt (23)).toInt32 = 23 := by decide
theorem bi_24 : (Int8.ofInt (24)).toInt32 = 24 := by decide
theorem bi_28 : (Int8.ofInt (28)).toInt32 = 28 := by decide
theorem bi_30 : (Int8.ofInt (30)).toInt32 = 30 := by decide
theorem bi_32 : (Int8.ofInt (32)).toInt32 = 32 := by decide
theorem bi_37 : (Int8.ofInt (37)).toInt32 = 37 := by decide
theorem bi_40 : (Int8.ofInt (40)).toInt32 = 40 := by decide
theorem bi_47 : (Int8.ofInt (47)).toInt32 = 47 := by decide
theorem bi_48 : (Int8.ofInt (48)).toInt32 = 48 := by decide
theorem bi_57 : (Int8.ofInt (57)).toInt32 = 57 := by decide
theorem bi_59 : (Int8.ofInt (59)).toInt32 = 59 := by decide
theorem bi_63 : (Int8.ofInt (63)).toInt32 = 63 := by decide
theorem bi_73 : (Int8.ofInt (73)).toInt32 = 73 := by decide
theorem bi_97 : (Int8.ofInt (97)).toInt32 = 97 := by decide
theorem bi_100 : (Int8.ofInt (100)).toInt32 = 100 := by decide
theorem bi_122 : (Int8.ofInt (122)).toInt32 = 122 := by decide
theorem ic_m1 : Int32.ofInt (-1) = -1 := by decide
theorem ic_0 : Int32.ofInt (0) = 0 := by decide
theorem ic_1 : Int32.ofInt (1) = 1 := by decide
theorem ic_2 : Int32.ofInt (2) = 2 := by decide
theorem ic_3 : Int32.ofInt (3) = 3 := by decide
theorem ic_4 : Int32.ofInt (4) = 4 := by decide
theorem ic_5 : Int32.ofInt (5) = 5 := by decide
theorem si_m449 : (Int16.ofInt (-449)).toInt32 = -449 := by decide
theorem si_146 : (Int16.ofInt (146)).toInt32 = 146 := by decide
theorem si_255 : (Int16.ofInt (255)).toInt32 = 255 := by decide
theorem si_292 : (Int16.ofInt (292)).toInt32 = 292 := by decide
theorem si_400 : (Int16.ofInt (400)).toInt32 = 400 := by decide
theorem si_511 : (Int16.ofInt (511)).toInt32 = 511 := by decide
theorem si_851 : (Int16.ofInt (851)).toInt32 = 851 := by decide
theorem si_1000 : (Int16.ofInt (1000)).toInt32 = 1000 := by decide
