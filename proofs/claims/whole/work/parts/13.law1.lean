/-! ===== the law: its walk, over pairs of calls ===== -/
/-! THE CLAIM OUT OF ONE WALK OF THE LAW'S BODY. Your part is whole_start (and what it stands on); all else here is the same for every law, but numbers. -/
def R_law : String := "LightSheetsLaw"
def lw_P (b : Addr) (xs : List Int32) (args : Array Value) (s : State) : Prop := args = #[.ref b] ∧ s.IntsAt b xs ∧ xs.length ≤ 3072 ∧ (Jvm.Cond.and given_1 narrow_1).before args s = true
def lw_Q (_ : Array Value) (s : State) (o : Outcome) (t : State) : Prop := o = .returned (some (.int 1)) ∧ Framed s o t [] 600000 7302249
def lw_Z (below : List Frame) (a : Array Value) (s : State) : State → Prop := fun t => ∃ o, t.status = .running ∧ Ended t below o ∧ lw_Q a s o t
/-- the law's own end, with 1 on the stack, nothing written that was there before, its room as the claim has it -/
theorem lw_ret {p : Program} {l : Launch} {e : Env} {s : State} {m : MethodId} {below : List Frame} {meth : Method} {c : Code} {b : Nat} (hx : p.tables.exec = Jvm.exec) (hb : c.code = code) (hr : meth.sig.returnType = ret) (hlocks : meth.locks = false) {pc : Nat} {H : Heap} {ls : Array Slot} (hdg : decode code pc = .ok (.ireturn, 1)) : W p l e room_1 s m #[Value.ref b] below meth c H [] 600000 7302249 (lw_Z below #[Value.ref b] s) (F0 m pc ls [.int 1]) := by
  intro T hT X
  obtain ⟨fs, hret, hrun, hended, hW, hframe⟩ := X.leave (v := some (.int 1)) (hlocks := hlocks) (fun h => by rw [hr] at h; cases h)
  have hmeth' : T.vm.method? m = some meth := X.method'
  refine ⟨T.setFrames fs, ?_, .returned (some (.int 1)), hrun, hended, rfl, ⟨_, rfl⟩, hW, hframe⟩
  jvm_step X.here [X.here.top, hx, hb, hdg, hmeth', hr, ret, narrow_b1]
  (try refine ⟨rfl, ?_⟩); (try refine ⟨rfl, ?_⟩)
  first | (intro acts; rw [hret _ acts rfl rfl rfl]) | rw [hret _ _ rfl rfl rfl]
  exact Steps.refl _
/-- what holds at the law's entry: the machine, the code, the tables' words (any of lw_tbl by 'hts w (by decide +kernel)'), the script of L ints xs at the cell b, what the Statement gives of the start (any of its parts by flat_of_before) -/
def lw_At (p : Program) (s : State) (m : MethodId) (meth : Method) (c : Code) (b L : Nat) (xs : Nat → Int32) : Prop :=
  p.tables.exec = Jvm.exec ∧ c.code = code ∧ meth.sig.returnType = ret ∧ c.maxLocals = 4 ∧ s.vm.findClass R_law = some m.cls ∧ (∀ w ∈ lw_tbl, w.before #[Value.ref b] s = true) ∧ va_X b L xs s s.heap ∧ b < s.heap.size ∧ meth.locks = false ∧ (Jvm.Cond.and given_1 narrow_1).before #[Value.ref b] s = true
theorem bi_31 : (Int8.ofInt (31)).toInt32 = 31 := by decide
theorem ic_6 : Int32.ofInt (6) = 6 := by decide
def zScr (X : zX) (L : Nat) (xs : Nat → Int32) : Prop :=
  match X with
  | (_, _, _, _, s, _, _, _, _, _, E, _, _, _) => va_X (E.2.2.2 200) L xs s s.heap ∧ E.2.2.2 200 < s.heap.size ∧ E.2.2.1 = s.heap.size
def zLaw (X : zX) (ls0 : Array Value) : Prop :=
  match X with
  | (_, _, _, R, s, _, args, below, _, _, _, n0, _, Q) => args = ls0 ∧ R = room_1 ∧ Q = lw_Z below ls0 s ∧ n0 = 0
section ZLAW
variable {X : zX} {M : zMt} {pc : Nat} {lv lv' : List (Nat × Value)} {st : List Value} {S : zS} {L : Nat} {xs : Nat → Int32}
theorem z_sld {i : Int32} (hX : zScr X L xs) (hd : decode M.2.1 pc = .ok (.iaload, 1)) (hi : vp_in i L) (kk : Z X M (pc + 1) lv (.int (xs i.toNatClampNeg) :: st) S) : Z X M pc lv (.int i :: .ref 1200 :: st) S := by
  obtain ⟨p, l, e, R, s, m, args, below, meth, c, E, n0, z0, Q⟩ := X
  intro ok cap H locs ls hP hS hl
  obtain ⟨h1, h2, h3⟩ := hX
  have e1 : zad E 1200 = E.2.2.2 200 := by simp [zad]
  show W p l e R s m args below meth c H locs _ _ Q (F0 m pc ls (.int i :: .ref (zad E 1200) :: st.map (zv E)))
  rw [e1]
  exact va_sld ok.1 ok.2.1 h1 h2 (by show ¬ E.2.2.1 ≤ E.2.2.2 200; omega) hS hi hd (kk ok cap H locs ls hP hS hl)
theorem z_slen {v : Int32} (hX : zScr X L xs) (hd : decode M.2.1 pc = .ok (.arraylength, 1)) (hv : nI L = v) (kk : Z X M (pc + 1) lv (.int v :: st) S) : Z X M pc lv (.ref 1200 :: st) S := by
  obtain ⟨p, l, e, R, s, m, args, below, meth, c, E, n0, z0, Q⟩ := X
  intro ok cap H locs ls hP hS hl
  subst hv
  obtain ⟨h1, h2, h3⟩ := hX
  have e1 : zad E 1200 = E.2.2.2 200 := by simp [zad]
  show W p l e R s m args below meth c H locs _ _ Q (F0 m pc ls (.ref (zad E 1200) :: st.map (zv E)))
  rw [e1]
  exact va_slen ok.1 ok.2.1 h1 h2 (by show ¬ E.2.2.1 ≤ E.2.2.2 200; omega) hS hd (kk ok cap H locs ls hP hS hl)
end ZLAW
theorem z_tsw31_0 {X : zX} {M : zMt} {pc : Nat} {lv : List (Nat × Value)} {st : List Value} {S : zS} {dflt hi : Int} {offs : Array Int} {len : Nat} {x : Int32} (t0 t1 t2 t3 t4 t5 t6 t7 t8 t9 t10 t11 t12 t13 t14 t15 t16 t17 t18 t19 t20 t21 t22 t23 t24 t25 t26 t27 t28 t29 t30 dt : Nat) (hd : decode M.2.1 pc = .ok (.tableswitch dflt 0 hi offs, len)) (hh : hi = 30) (ho : offs.toList.map (fun o => (pc : Int) + o) = [t0, t1, t2, t3, t4, t5, t6, t7, t8, t9, t10, t11, t12, t13, t14, t15, t16, t17, t18, t19, t20, t21, t22, t23, t24, t25, t26, t27, t28, t29, t30].map (fun t : Nat => (t : Int))) (hdt : (pc : Int) + dflt = (dt : Int)) (k0 : x = 0 → Z X M t0 lv st S) (k1 : x = 1 → Z X M t1 lv st S) (k2 : x = 2 → Z X M t2 lv st S) (k3 : x = 3 → Z X M t3 lv st S) (k4 : x = 4 → Z X M t4 lv st S) (k5 : x = 5 → Z X M t5 lv st S) (k6 : x = 6 → Z X M t6 lv st S) (k7 : x = 7 → Z X M t7 lv st S) (k8 : x = 8 → Z X M t8 lv st S) (k9 : x = 9 → Z X M t9 lv st S) (k10 : x = 10 → Z X M t10 lv st S) (k11 : x = 11 → Z X M t11 lv st S) (k12 : x = 12 → Z X M t12 lv st S) (k13 : x = 13 → Z X M t13 lv st S) (k14 : x = 14 → Z X M t14 lv st S) (k15 : x = 15 → Z X M t15 lv st S) (k16 : x = 16 → Z X M t16 lv st S) (k17 : x = 17 → Z X M t17 lv st S) (k18 : x = 18 → Z X M t18 lv st S) (k19 : x = 19 → Z X M t19 lv st S) (k20 : x = 20 → Z X M t20 lv st S) (k21 : x = 21 → Z X M t21 lv st S) (k22 : x = 22 → Z X M t22 lv st S) (k23 : x = 23 → Z X M t23 lv st S) (k24 : x = 24 → Z X M t24 lv st S) (k25 : x = 25 → Z X M t25 lv st S) (k26 : x = 26 → Z X M t26 lv st S) (k27 : x = 27 → Z X M t27 lv st S) (k28 : x = 28 → Z X M t28 lv st S) (k29 : x = 29 → Z X M t29 lv st S) (k30 : x = 30 → Z X M t30 lv st S) (kd : ¬ x = 0 → ¬ x = 1 → ¬ x = 2 → ¬ x = 3 → ¬ x = 4 → ¬ x = 5 → ¬ x = 6 → ¬ x = 7 → ¬ x = 8 → ¬ x = 9 → ¬ x = 10 → ¬ x = 11 → ¬ x = 12 → ¬ x = 13 → ¬ x = 14 → ¬ x = 15 → ¬ x = 16 → ¬ x = 17 → ¬ x = 18 → ¬ x = 19 → ¬ x = 20 → ¬ x = 21 → ¬ x = 22 → ¬ x = 23 → ¬ x = 24 → ¬ x = 25 → ¬ x = 26 → ¬ x = 27 → ¬ x = 28 → ¬ x = 29 → ¬ x = 30 → Z X M dt lv st S) : Z X M pc lv (.int x :: st) S := by
  subst hh
  refine z_tswL 0 [t0, t1, t2, t3, t4, t5, t6, t7, t8, t9, t10, t11, t12, t13, t14, t15, t16, t17, t18, t19, t20, t21, t22, t23, t24, t25, t26, t27, t28, t29, t30] dt hd ⟨rfl, rfl⟩ ho hdt (Nat.le_of_ble_eq_true rfl) (fun i t hi hx => ?_) (fun hx => ?_)
  · match i, hi with
    | 0, hi => exact Option.some.inj hi ▸ k0 hx
    | 1, hi => exact Option.some.inj hi ▸ k1 hx
    | 2, hi => exact Option.some.inj hi ▸ k2 hx
    | 3, hi => exact Option.some.inj hi ▸ k3 hx
    | 4, hi => exact Option.some.inj hi ▸ k4 hx
    | 5, hi => exact Option.some.inj hi ▸ k5 hx
    | 6, hi => exact Option.some.inj hi ▸ k6 hx
    | 7, hi => exact Option.some.inj hi ▸ k7 hx
    | 8, hi => exact Option.some.inj hi ▸ k8 hx
    | 9, hi => exact Option.some.inj hi ▸ k9 hx
    | 10, hi => exact Option.some.inj hi ▸ k10 hx
    | 11, hi => exact Option.some.inj hi ▸ k11 hx
    | 12, hi => exact Option.some.inj hi ▸ k12 hx
    | 13, hi => exact Option.some.inj hi ▸ k13 hx
    | 14, hi => exact Option.some.inj hi ▸ k14 hx
    | 15, hi => exact Option.some.inj hi ▸ k15 hx
    | 16, hi => exact Option.some.inj hi ▸ k16 hx
    | 17, hi => exact Option.some.inj hi ▸ k17 hx
    | 18, hi => exact Option.some.inj hi ▸ k18 hx
    | 19, hi => exact Option.some.inj hi ▸ k19 hx
    | 20, hi => exact Option.some.inj hi ▸ k20 hx
    | 21, hi => exact Option.some.inj hi ▸ k21 hx
    | 22, hi => exact Option.some.inj hi ▸ k22 hx
    | 23, hi => exact Option.some.inj hi ▸ k23 hx
    | 24, hi => exact Option.some.inj hi ▸ k24 hx
    | 25, hi => exact Option.some.inj hi ▸ k25 hx
    | 26, hi => exact Option.some.inj hi ▸ k26 hx
    | 27, hi => exact Option.some.inj hi ▸ k27 hx
    | 28, hi => exact Option.some.inj hi ▸ k28 hx
    | 29, hi => exact Option.some.inj hi ▸ k29 hx
    | 30, hi => exact Option.some.inj hi ▸ k30 hx
    | i + 31, hi => exact absurd hi (by simp)
  · exact kd (hx 0 (Nat.le_of_ble_eq_true rfl)) (hx 1 (Nat.le_of_ble_eq_true rfl)) (hx 2 (Nat.le_of_ble_eq_true rfl)) (hx 3 (Nat.le_of_ble_eq_true rfl)) (hx 4 (Nat.le_of_ble_eq_true rfl)) (hx 5 (Nat.le_of_ble_eq_true rfl)) (hx 6 (Nat.le_of_ble_eq_true rfl)) (hx 7 (Nat.le_of_ble_eq_true rfl)) (hx 8 (Nat.le_of_ble_eq_true rfl)) (hx 9 (Nat.le_of_ble_eq_true rfl)) (hx 10 (Nat.le_of_ble_eq_true rfl)) (hx 11 (Nat.le_of_ble_eq_true rfl)) (hx 12 (Nat.le_of_ble_eq_true rfl)) (hx 13 (Nat.le_of_ble_eq_true rfl)) (hx 14 (Nat.le_of_ble_eq_true rfl)) (hx 15 (Nat.le_of_ble_eq_true rfl)) (hx 16 (Nat.le_of_ble_eq_true rfl)) (hx 17 (Nat.le_of_ble_eq_true rfl)) (hx 18 (Nat.le_of_ble_eq_true rfl)) (hx 19 (Nat.le_of_ble_eq_true rfl)) (hx 20 (Nat.le_of_ble_eq_true rfl)) (hx 21 (Nat.le_of_ble_eq_true rfl)) (hx 22 (Nat.le_of_ble_eq_true rfl)) (hx 23 (Nat.le_of_ble_eq_true rfl)) (hx 24 (Nat.le_of_ble_eq_true rfl)) (hx 25 (Nat.le_of_ble_eq_true rfl)) (hx 26 (Nat.le_of_ble_eq_true rfl)) (hx 27 (Nat.le_of_ble_eq_true rfl)) (hx 28 (Nat.le_of_ble_eq_true rfl)) (hx 29 (Nat.le_of_ble_eq_true rfl)) (hx 30 (Nat.le_of_ble_eq_true rfl))

abbrev mL_law : zMt := (⟨RL, "law", "([I)Z"⟩, cL_law, 4, some .boolean, 11)
set_option maxRecDepth 100000 in
set_option maxHeartbeats 4000000 in
theorem l_L_law_18 {X : zX} {f : zF} {L : Nat} {xs : Nat → Int32} {x3 : Int32} (hX : zScr X L xs) (h : ((((nI L) - 6) < x3 → Z X mL_law 1122 [(0, .ref 1200), (1, .ref 0), (2, .ref 52), (3, .int x3)] [.int 1] (zC f)) ∧ (¬ ((nI L) - 6) < x3 → ((vp_in x3 L ∧ vp_in (x3 + 1) L ∧ vp_in (x3 + 2) L ∧ vp_in (x3 + 3) L ∧ vp_in (x3 + 4) L ∧ vp_in (x3 + 5) L) ∧ ((((xs (Int32.toNatClampNeg x3)) &&& 31) = 0 → ci mX6_row [.ref 0, .int (xs (Int32.toNatClampNeg (x3 + 1))), .int (xs (Int32.toNatClampNeg (x3 + 2))), .int (xs (Int32.toNatClampNeg (x3 + 3)))] f (fun r101 f101 => ci mX7_row [.ref 52, .int (xs (Int32.toNatClampNeg (x3 + 1))), .int (xs (Int32.toNatClampNeg (x3 + 2))), .int (xs (Int32.toNatClampNeg (x3 + 3)))] f101 (fun r102 f102 => ((r101 = r102 → Z X mL_law 18 [(0, .ref 1200), (1, .ref 0), (2, .ref 52), (3, .int (x3 + 6))] [] (zC f102)) ∧ (¬ r101 = r102 → False))))) ∧ (((xs (Int32.toNatClampNeg x3)) &&& 31) = 1 → ci mX6_set [.ref 0, .int (xs (Int32.toNatClampNeg (x3 + 1))), .int (xs (Int32.toNatClampNeg (x3 + 2))), .int (xs (Int32.toNatClampNeg (x3 + 3)))] f (fun r103 f103 => ci mX7_set [.ref 52, .int (xs (Int32.toNatClampNeg (x3 + 1))), .int (xs (Int32.toNatClampNeg (x3 + 2))), .int (xs (Int32.toNatClampNeg (x3 + 3)))] f103 (fun r104 f104 => ((r103 = r104 → Z X mL_law 18 [(0, .ref 1200), (1, .ref 0), (2, .ref 52), (3, .int (x3 + 6))] [] (zC f104)) ∧ (¬ r103 = r104 → False))))) ∧ (((xs (Int32.toNatClampNeg x3)) &&& 31) = 2 → ci mX6_copy [.ref 0, .int (xs (Int32.toNatClampNeg (x3 + 1))), .int (xs (Int32.toNatClampNeg (x3 + 2))), .int (xs (Int32.toNatClampNeg (x3 + 3))), .int (xs (Int32.toNatClampNeg (x3 + 4))), .int (xs (Int32.toNatClampNeg (x3 + 5)))] f (fun r105 f105 => ci mX7_copy [.ref 52, .int (xs (Int32.toNatClampNeg (x3 + 1))), .int (xs (Int32.toNatClampNeg (x3 + 2))), .int (xs (Int32.toNatClampNeg (x3 + 3))), .int (xs (Int32.toNatClampNeg (x3 + 4))), .int (xs (Int32.toNatClampNeg (x3 + 5)))] f105 (fun r106 f106 => ((r105 = r106 → Z X mL_law 18 [(0, .ref 1200), (1, .ref 0), (2, .ref 52), (3, .int (x3 + 6))] [] (zC f106)) ∧ (¬ r105 = r106 → False))))) ∧ (((xs (Int32.toNatClampNeg x3)) &&& 31) = 3 → ci mX6_drop [.ref 0, .int (xs (Int32.toNatClampNeg (x3 + 1)))] f (fun r107 f107 => ci mX7_drop [.ref 52, .int (xs (Int32.toNatClampNeg (x3 + 1)))] f107 (fun r108 f108 => ((r107 = r108 → Z X mL_law 18 [(0, .ref 1200), (1, .ref 0), (2, .ref 52), (3, .int (x3 + 6))] [] (zC f108)) ∧ (¬ r107 = r108 → False))))) ∧ (((xs (Int32.toNatClampNeg x3)) &&& 31) = 4 → ci mX6_feed [.ref 0, .long (((Int32.toInt64 (xs (Int32.toNatClampNeg (x3 + 1)))) <<< (Int32.toInt64 32 &&& 63)) ||| ((Int32.toInt64 (xs (Int32.toNatClampNeg (x3 + 2)))) &&& 4294967295)), .int (xs (Int32.toNatClampNeg (x3 + 3)))] f (fun r109 f109 => ci mX7_feed [.ref 52, .long (((Int32.toInt64 (xs (Int32.toNatClampNeg (x3 + 1)))) <<< (Int32.toInt64 32 &&& 63)) ||| ((Int32.toInt64 (xs (Int32.toNatClampNeg (x3 + 2)))) &&& 4294967295)), .int (xs (Int32.toNatClampNeg (x3 + 3)))] f109 (fun r110 f110 => ((r109 = r110 → Z X mL_law 18 [(0, .ref 1200), (1, .ref 0), (2, .ref 52), (3, .int (x3 + 6))] [] (zC f110)) ∧ (¬ r109 = r110 → False))))) ∧ (((xs (Int32.toNatClampNeg x3)) &&& 31) = 5 → ci mX6_page [.ref 0] f (fun r111 f111 => ci mX7_page [.ref 52] f111 (fun r112 f112 => ((r111 = r112 → Z X mL_law 18 [(0, .ref 1200), (1, .ref 0), (2, .ref 52), (3, .int (x3 + 6))] [] (zC f112)) ∧ (¬ r111 = r112 → False))))) ∧ (((xs (Int32.toNatClampNeg x3)) &&& 31) = 6 → ci mX6_fault [.ref 0] f (fun r113 f113 => ci mX7_fault [.ref 52] f113 (fun r114 f114 => ((r113 = r114 → Z X mL_law 18 [(0, .ref 1200), (1, .ref 0), (2, .ref 52), (3, .int (x3 + 6))] [] (zC f114)) ∧ (¬ r113 = r114 → False))))) ∧ (((xs (Int32.toNatClampNeg x3)) &&& 31) = 7 → ci mX6_write [.ref 0, .int (xs (Int32.toNatClampNeg (x3 + 1))), .int (xs (Int32.toNatClampNeg (x3 + 2))), .int (xs (Int32.toNatClampNeg (x3 + 3)))] f (fun r115 f115 => ci mX7_write [.ref 52, .int (xs (Int32.toNatClampNeg (x3 + 1))), .int (xs (Int32.toNatClampNeg (x3 + 2))), .int (xs (Int32.toNatClampNeg (x3 + 3)))] f115 (fun r116 f116 => ((r115 = r116 → Z X mL_law 18 [(0, .ref 1200), (1, .ref 0), (2, .ref 52), (3, .int (x3 + 6))] [] (zC f116)) ∧ (¬ r115 = r116 → False))))) ∧ (((xs (Int32.toNatClampNeg x3)) &&& 31) = 8 → ci mX6_turn [.ref 0] f (fun r117 f117 => ci mX7_turn [.ref 52] f117 (fun r118 f118 => ((r117 = r118 → Z X mL_law 18 [(0, .ref 1200), (1, .ref 0), (2, .ref 52), (3, .int (x3 + 6))] [] (zC f118)) ∧ (¬ r117 = r118 → False))))) ∧ (((xs (Int32.toNatClampNeg x3)) &&& 31) = 9 → ci mX6_undo [.ref 0] f (fun r119 f119 => ci mX7_undo [.ref 52] f119 (fun r120 f120 => ((r119 = r120 → Z X mL_law 18 [(0, .ref 1200), (1, .ref 0), (2, .ref 52), (3, .int (x3 + 6))] [] (zC f120)) ∧ (¬ r119 = r120 → False))))) ∧ (((xs (Int32.toNatClampNeg x3)) &&& 31) = 10 → ci mX6_at [.ref 0, .int (xs (Int32.toNatClampNeg (x3 + 1))), .int (xs (Int32.toNatClampNeg (x3 + 2)))] f (fun r121 f121 => ci mX7_at [.ref 52, .int (xs (Int32.toNatClampNeg (x3 + 1))), .int (xs (Int32.toNatClampNeg (x3 + 2)))] f121 (fun r122 f122 => ((r121 = r122 → Z X mL_law 18 [(0, .ref 1200), (1, .ref 0), (2, .ref 52), (3, .int (x3 + 6))] [] (zC f122)) ∧ (¬ r121 = r122 → False))))) ∧ (((xs (Int32.toNatClampNeg x3)) &&& 31) = 11 → ci mX6_letter [.ref 0, .int (xs (Int32.toNatClampNeg (x3 + 1))), .int (xs (Int32.toNatClampNeg (x3 + 2)))] f (fun r123 f123 => ci mX7_letter [.ref 52, .int (xs (Int32.toNatClampNeg (x3 + 1))), .int (xs (Int32.toNatClampNeg (x3 + 2)))] f123 (fun r124 f124 => ((r123 = r124 → Z X mL_law 18 [(0, .ref 1200), (1, .ref 0), (2, .ref 52), (3, .int (x3 + 6))] [] (zC f124)) ∧ (¬ r123 = r124 → False))))) ∧ (((xs (Int32.toNatClampNeg x3)) &&& 31) = 12 → ci mX6_light [.ref 0, .int (xs (Int32.toNatClampNeg (x3 + 1))), .int (xs (Int32.toNatClampNeg (x3 + 2))), .int (xs (Int32.toNatClampNeg (x3 + 3)))] f (fun r125 f125 => ci mX7_light [.ref 52, .int (xs (Int32.toNatClampNeg (x3 + 1))), .int (xs (Int32.toNatClampNeg (x3 + 2))), .int (xs (Int32.toNatClampNeg (x3 + 3)))] f125 (fun r126 f126 => ((r125 = r126 → Z X mL_law 18 [(0, .ref 1200), (1, .ref 0), (2, .ref 52), (3, .int (x3 + 6))] [] (zC f126)) ∧ (¬ r125 = r126 → False))))) ∧ (((xs (Int32.toNatClampNeg x3)) &&& 31) = 13 → ci mX6_damp [.ref 0, .int (xs (Int32.toNatClampNeg (x3 + 1))), .int (xs (Int32.toNatClampNeg (x3 + 2))), .int (xs (Int32.toNatClampNeg (x3 + 3))), .int (xs (Int32.toNatClampNeg (x3 + 4)))] f (fun r127 f127 => ci mX7_damp [.ref 52, .int (xs (Int32.toNatClampNeg (x3 + 1))), .int (xs (Int32.toNatClampNeg (x3 + 2))), .int (xs (Int32.toNatClampNeg (x3 + 3))), .int (xs (Int32.toNatClampNeg (x3 + 4)))] f127 (fun r128 f128 => ((r127 = r128 → Z X mL_law 18 [(0, .ref 1200), (1, .ref 0), (2, .ref 52), (3, .int (x3 + 6))] [] (zC f128)) ∧ (¬ r127 = r128 → False))))) ∧ (((xs (Int32.toNatClampNeg x3)) &&& 31) = 14 → ci mX6_read [.ref 0, .int (xs (Int32.toNatClampNeg (x3 + 1))), .int (xs (Int32.toNatClampNeg (x3 + 2)))] f (fun r129 f129 => ci mX7_read [.ref 52, .int (xs (Int32.toNatClampNeg (x3 + 1))), .int (xs (Int32.toNatClampNeg (x3 + 2)))] f129 (fun r130 f130 => ((r129 = r130 → Z X mL_law 18 [(0, .ref 1200), (1, .ref 0), (2, .ref 52), (3, .int (x3 + 6))] [] (zC f130)) ∧ (¬ r129 = r130 → False))))) ∧ (((xs (Int32.toNatClampNeg x3)) &&& 31) = 15 → ci mX6_behind [.ref 0, .int (xs (Int32.toNatClampNeg (x3 + 1))), .int (xs (Int32.toNatClampNeg (x3 + 2)))] f (fun r131 f131 => ci mX7_behind [.ref 52, .int (xs (Int32.toNatClampNeg (x3 + 1))), .int (xs (Int32.toNatClampNeg (x3 + 2)))] f131 (fun r132 f132 => ((r131 = r132 → Z X mL_law 18 [(0, .ref 1200), (1, .ref 0), (2, .ref 52), (3, .int (x3 + 6))] [] (zC f132)) ∧ (¬ r131 = r132 → False))))) ∧ (((xs (Int32.toNatClampNeg x3)) &&& 31) = 16 → ci mX6_ways [.ref 0, .int (xs (Int32.toNatClampNeg (x3 + 1)))] f (fun r133 f133 => ci mX7_ways [.ref 52, .int (xs (Int32.toNatClampNeg (x3 + 1)))] f133 (fun r134 f134 => ((r133 = r134 → Z X mL_law 18 [(0, .ref 1200), (1, .ref 0), (2, .ref 52), (3, .int (x3 + 6))] [] (zC f134)) ∧ (¬ r133 = r134 → False))))) ∧ (((xs (Int32.toNatClampNeg x3)) &&& 31) = 17 → ci mX6_anew [.ref 0, .int (xs (Int32.toNatClampNeg (x3 + 1)))] f (fun r135 f135 => ci mX7_anew [.ref 52, .int (xs (Int32.toNatClampNeg (x3 + 1)))] f135 (fun r136 f136 => ((r135 = r136 → Z X mL_law 18 [(0, .ref 1200), (1, .ref 0), (2, .ref 52), (3, .int (x3 + 6))] [] (zC f136)) ∧ (¬ r135 = r136 → False))))) ∧ (((xs (Int32.toNatClampNeg x3)) &&& 31) = 18 → ci mX6_fits [.ref 0, .int (xs (Int32.toNatClampNeg (x3 + 1))), .int (xs (Int32.toNatClampNeg (x3 + 2)))] f (fun r137 f137 => ci mX7_fits [.ref 52, .int (xs (Int32.toNatClampNeg (x3 + 1))), .int (xs (Int32.toNatClampNeg (x3 + 2)))] f137 (fun r138 f138 => ((r137 = r138 → Z X mL_law 18 [(0, .ref 1200), (1, .ref 0), (2, .ref 52), (3, .int (x3 + 6))] [] (zC f138)) ∧ (¬ r137 = r138 → False))))) ∧ (((xs (Int32.toNatClampNeg x3)) &&& 31) = 19 → ci mX6_harm [.ref 0, .int (xs (Int32.toNatClampNeg (x3 + 1)))] f (fun r139 f139 => ci mX7_harm [.ref 52, .int (xs (Int32.toNatClampNeg (x3 + 1)))] f139 (fun r140 f140 => ((r139 = r140 → Z X mL_law 18 [(0, .ref 1200), (1, .ref 0), (2, .ref 52), (3, .int (x3 + 6))] [] (zC f140)) ∧ (¬ r139 = r140 → False))))) ∧ (((xs (Int32.toNatClampNeg x3)) &&& 31) = 20 → ci mX6_leastHarm [.ref 0, .int (xs (Int32.toNatClampNeg (x3 + 1)))] f (fun r141 f141 => ci mX7_leastHarm [.ref 52, .int (xs (Int32.toNatClampNeg (x3 + 1)))] f141 (fun r142 f142 => ((r141 = r142 → Z X mL_law 18 [(0, .ref 1200), (1, .ref 0), (2, .ref 52), (3, .int (x3 + 6))] [] (zC f142)) ∧ (¬ r141 = r142 → False))))) ∧ (((xs (Int32.toNatClampNeg x3)) &&& 31) = 21 → ci mX6_safe [.ref 0, .int (xs (Int32.toNatClampNeg (x3 + 1)))] f (fun r143 f143 => ci mX7_safe [.ref 52, .int (xs (Int32.toNatClampNeg (x3 + 1)))] f143 (fun r144 f144 => ((r143 = r144 → Z X mL_law 18 [(0, .ref 1200), (1, .ref 0), (2, .ref 52), (3, .int (x3 + 6))] [] (zC f144)) ∧ (¬ r143 = r144 → False))))) ∧ (((xs (Int32.toNatClampNeg x3)) &&& 31) = 22 → ci mX6_over [.ref 0, .int (xs (Int32.toNatClampNeg (x3 + 1))), .int (xs (Int32.toNatClampNeg (x3 + 2))), .int (xs (Int32.toNatClampNeg (x3 + 3)))] f (fun r145 f145 => ci mX7_over [.ref 52, .int (xs (Int32.toNatClampNeg (x3 + 1))), .int (xs (Int32.toNatClampNeg (x3 + 2))), .int (xs (Int32.toNatClampNeg (x3 + 3)))] f145 (fun r146 f146 => ((r145 = r146 → Z X mL_law 18 [(0, .ref 1200), (1, .ref 0), (2, .ref 52), (3, .int (x3 + 6))] [] (zC f146)) ∧ (¬ r145 = r146 → False))))) ∧ (((xs (Int32.toNatClampNeg x3)) &&& 31) = 23 → ci mX6_image [.ref 0, .int (xs (Int32.toNatClampNeg (x3 + 1)))] f (fun r147 f147 => ci mX7_image [.ref 52, .int (xs (Int32.toNatClampNeg (x3 + 1)))] f147 (fun r148 f148 => ((r147 = r148 → Z X mL_law 18 [(0, .ref 1200), (1, .ref 0), (2, .ref 52), (3, .int (x3 + 6))] [] (zC f148)) ∧ (¬ r147 = r148 → False))))) ∧ (((xs (Int32.toNatClampNeg x3)) &&& 31) = 24 → ci mX6_restore [.ref 0, .int (xs (Int32.toNatClampNeg (x3 + 1)))] f (fun r149 f149 => ci mX7_restore [.ref 52, .int (xs (Int32.toNatClampNeg (x3 + 1)))] f149 (fun r150 f150 => ((r149 = r150 → Z X mL_law 18 [(0, .ref 1200), (1, .ref 0), (2, .ref 52), (3, .int (x3 + 6))] [] (zC f150)) ∧ (¬ r149 = r150 → False))))) ∧ (((xs (Int32.toNatClampNeg x3)) &&& 31) = 25 → ci mX6_kind [.ref 0, .int (xs (Int32.toNatClampNeg (x3 + 1)))] f (fun r151 f151 => ci mX7_kind [.ref 52, .int (xs (Int32.toNatClampNeg (x3 + 1)))] f151 (fun r152 f152 => ((r151 = r152 → Z X mL_law 18 [(0, .ref 1200), (1, .ref 0), (2, .ref 52), (3, .int (x3 + 6))] [] (zC f152)) ∧ (¬ r151 = r152 → False))))) ∧ (((xs (Int32.toNatClampNeg x3)) &&& 31) = 26 → ci mX6_as [.ref 0, .int (xs (Int32.toNatClampNeg (x3 + 1))), .int (xs (Int32.toNatClampNeg (x3 + 2)))] f (fun r153 f153 => ci mX7_as [.ref 52, .int (xs (Int32.toNatClampNeg (x3 + 1))), .int (xs (Int32.toNatClampNeg (x3 + 2)))] f153 (fun r154 f154 => ((r153 = r154 → Z X mL_law 18 [(0, .ref 1200), (1, .ref 0), (2, .ref 52), (3, .int (x3 + 6))] [] (zC f154)) ∧ (¬ r153 = r154 → False))))) ∧ (((xs (Int32.toNatClampNeg x3)) &&& 31) = 27 → ci mX6_ask [.ref 0, .int (xs (Int32.toNatClampNeg (x3 + 1))), .int (xs (Int32.toNatClampNeg (x3 + 2)))] f (fun r155 f155 => ci mX7_ask [.ref 52, .int (xs (Int32.toNatClampNeg (x3 + 1))), .int (xs (Int32.toNatClampNeg (x3 + 2)))] f155 (fun r156 f156 => ((r155 = r156 → Z X mL_law 18 [(0, .ref 1200), (1, .ref 0), (2, .ref 52), (3, .int (x3 + 6))] [] (zC f156)) ∧ (¬ r155 = r156 → False))))) ∧ (((xs (Int32.toNatClampNeg x3)) &&& 31) = 28 → ci mX6_trace [.ref 0, .int (xs (Int32.toNatClampNeg (x3 + 1)))] f (fun r157 f157 => ci mX7_trace [.ref 52, .int (xs (Int32.toNatClampNeg (x3 + 1)))] f157 (fun r158 f158 => ((r157 = r158 → Z X mL_law 18 [(0, .ref 1200), (1, .ref 0), (2, .ref 52), (3, .int (x3 + 6))] [] (zC f158)) ∧ (¬ r157 = r158 → False))))) ∧ (((xs (Int32.toNatClampNeg x3)) &&& 31) = 29 → ci mX6_count [.ref 0, .int (xs (Int32.toNatClampNeg (x3 + 1)))] f (fun r159 f159 => ci mX7_count [.ref 52, .int (xs (Int32.toNatClampNeg (x3 + 1)))] f159 (fun r160 f160 => ((r159 = r160 → Z X mL_law 18 [(0, .ref 1200), (1, .ref 0), (2, .ref 52), (3, .int (x3 + 6))] [] (zC f160)) ∧ (¬ r159 = r160 → False))))) ∧ (((xs (Int32.toNatClampNeg x3)) &&& 31) = 30 → ci mX6_status [.ref 0] f (fun r161 f161 => ci mX7_status [.ref 52] f161 (fun r162 f162 => ((r161 = r162 → Z X mL_law 18 [(0, .ref 1200), (1, .ref 0), (2, .ref 52), (3, .int (x3 + 6))] [] (zC f162)) ∧ (¬ r161 = r162 → False))))) ∧ (¬ ((xs (Int32.toNatClampNeg x3)) &&& 31) = 0 → ¬ ((xs (Int32.toNatClampNeg x3)) &&& 31) = 1 → ¬ ((xs (Int32.toNatClampNeg x3)) &&& 31) = 2 → ¬ ((xs (Int32.toNatClampNeg x3)) &&& 31) = 3 → ¬ ((xs (Int32.toNatClampNeg x3)) &&& 31) = 4 → ¬ ((xs (Int32.toNatClampNeg x3)) &&& 31) = 5 → ¬ ((xs (Int32.toNatClampNeg x3)) &&& 31) = 6 → ¬ ((xs (Int32.toNatClampNeg x3)) &&& 31) = 7 → ¬ ((xs (Int32.toNatClampNeg x3)) &&& 31) = 8 → ¬ ((xs (Int32.toNatClampNeg x3)) &&& 31) = 9 → ¬ ((xs (Int32.toNatClampNeg x3)) &&& 31) = 10 → ¬ ((xs (Int32.toNatClampNeg x3)) &&& 31) = 11 → ¬ ((xs (Int32.toNatClampNeg x3)) &&& 31) = 12 → ¬ ((xs (Int32.toNatClampNeg x3)) &&& 31) = 13 → ¬ ((xs (Int32.toNatClampNeg x3)) &&& 31) = 14 → ¬ ((xs (Int32.toNatClampNeg x3)) &&& 31) = 15 → ¬ ((xs (Int32.toNatClampNeg x3)) &&& 31) = 16 → ¬ ((xs (Int32.toNatClampNeg x3)) &&& 31) = 17 → ¬ ((xs (Int32.toNatClampNeg x3)) &&& 31) = 18 → ¬ ((xs (Int32.toNatClampNeg x3)) &&& 31) = 19 → ¬ ((xs (Int32.toNatClampNeg x3)) &&& 31) = 20 → ¬ ((xs (Int32.toNatClampNeg x3)) &&& 31) = 21 → ¬ ((xs (Int32.toNatClampNeg x3)) &&& 31) = 22 → ¬ ((xs (Int32.toNatClampNeg x3)) &&& 31) = 23 → ¬ ((xs (Int32.toNatClampNeg x3)) &&& 31) = 24 → ¬ ((xs (Int32.toNatClampNeg x3)) &&& 31) = 25 → ¬ ((xs (Int32.toNatClampNeg x3)) &&& 31) = 26 → ¬ ((xs (Int32.toNatClampNeg x3)) &&& 31) = 27 → ¬ ((xs (Int32.toNatClampNeg x3)) &&& 31) = 28 → ¬ ((xs (Int32.toNatClampNeg x3)) &&& 31) = 29 → ¬ ((xs (Int32.toNatClampNeg x3)) &&& 31) = 30 → Z X mL_law 18 [(0, .ref 1200), (1, .ref 0), (2, .ref 52), (3, .int (x3 + 6))] [] (zC f))))))) : Z X mL_law 18 [(0, .ref 1200), (1, .ref 0), (2, .ref 52), (3, .int x3)] [] (zC f) := by
  refine z_iload_n (pc := 18) dL_law_18 rfl ?_
  refine z_aload_n (pc := 19) dL_law_19 rfl ?_
  refine z_slen (pc := 20) hX dL_law_20 rfl ?_
  refine z_bipush (pc := 21) (v := 6) dL_law_21 bi_6 ?_
  refine z_isub (pc := 23) dL_law_23 ?_
  refine z_icmp_gt (pc := 24) (t := 1121) dL_law_24 (by decide) (fun c_24 => ?_) (fun c_24 => ?_)
  · replace h := h.1 c_24
    refine z_iconst (pc := 1121) (v := 1) dL_law_1121 ic_1 ?_
    exact h
  · replace h := h.2 c_24
    refine z_aload_n (pc := 27) dL_law_27 rfl ?_
    refine z_iload_n (pc := 28) dL_law_28 rfl ?_
    have hv := h.1
    refine z_sld (pc := 29) hX dL_law_29 hv.1 ?_
    replace h := h.2
    refine z_bipush (pc := 30) (v := 31) dL_law_30 bi_31 ?_
    refine z_iand (pc := 32) dL_law_32 ?_
    refine z_tsw31_0 (pc := 33) 172 215 258 321 344 407 420 433 476 489 502 535 568 611 664 697 730 753 776 809 832 855 878 921 944 967 990 1023 1056 1079 1102 1115 dL_law_33 rfl (by decide) (by decide) (fun c_33_0 => ?_) (fun c_33_1 => ?_) (fun c_33_2 => ?_) (fun c_33_3 => ?_) (fun c_33_4 => ?_) (fun c_33_5 => ?_) (fun c_33_6 => ?_) (fun c_33_7 => ?_) (fun c_33_8 => ?_) (fun c_33_9 => ?_) (fun c_33_10 => ?_) (fun c_33_11 => ?_) (fun c_33_12 => ?_) (fun c_33_13 => ?_) (fun c_33_14 => ?_) (fun c_33_15 => ?_) (fun c_33_16 => ?_) (fun c_33_17 => ?_) (fun c_33_18 => ?_) (fun c_33_19 => ?_) (fun c_33_20 => ?_) (fun c_33_21 => ?_) (fun c_33_22 => ?_) (fun c_33_23 => ?_) (fun c_33_24 => ?_) (fun c_33_25 => ?_) (fun c_33_26 => ?_) (fun c_33_27 => ?_) (fun c_33_28 => ?_) (fun c_33_29 => ?_) (fun c_33_30 => ?_) (fun c_33_0 c_33_1 c_33_2 c_33_3 c_33_4 c_33_5 c_33_6 c_33_7 c_33_8 c_33_9 c_33_10 c_33_11 c_33_12 c_33_13 c_33_14 c_33_15 c_33_16 c_33_17 c_33_18 c_33_19 c_33_20 c_33_21 c_33_22 c_33_23 c_33_24 c_33_25 c_33_26 c_33_27 c_33_28 c_33_29 c_33_30 => ?_)
    · replace h := h.1 c_33_0
      refine z_aload_n (pc := 172) dL_law_172 rfl ?_
      refine z_aload_n (pc := 173) dL_law_173 rfl ?_
      refine z_iload_n (pc := 174) dL_law_174 rfl ?_
      refine z_iconst (pc := 175) (v := 1) dL_law_175 ic_1 ?_
      refine z_iadd (pc := 176) dL_law_176 ?_
      refine z_sld (pc := 177) hX dL_law_177 hv.2.1 ?_
      refine z_aload_n (pc := 178) dL_law_178 rfl ?_
      refine z_iload_n (pc := 179) dL_law_179 rfl ?_
      refine z_iconst (pc := 180) (v := 2) dL_law_180 ic_2 ?_
      refine z_iadd (pc := 181) dL_law_181 ?_
      refine z_sld (pc := 182) hX dL_law_182 hv.2.2.1 ?_
      refine z_aload_n (pc := 183) dL_law_183 rfl ?_
      refine z_iload_n (pc := 184) dL_law_184 rfl ?_
      refine z_iconst (pc := 185) (v := 3) dL_law_185 ic_3 ?_
      refine z_iadd (pc := 186) dL_law_186 ?_
      refine z_sld (pc := 187) hX dL_law_187 hv.2.2.2.1 ?_
      refine k_cVi (pc := 188) (av := [.int (xs (Int32.toNatClampNeg (x3 + 1))), .int (xs (Int32.toNatClampNeg (x3 + 2))), .int (xs (Int32.toNatClampNeg (x3 + 3)))]) zc6 rfl dL_law_188 lk_L_13 rfl (by decide) (by decide) (by decide) rfl rfl h (fun r101 f101 h => ?_)
      refine z_aload_n (pc := 191) dL_law_191 rfl ?_
      refine z_aload_n (pc := 192) dL_law_192 rfl ?_
      refine z_iload_n (pc := 193) dL_law_193 rfl ?_
      refine z_iconst (pc := 194) (v := 1) dL_law_194 ic_1 ?_
      refine z_iadd (pc := 195) dL_law_195 ?_
      refine z_sld (pc := 196) hX dL_law_196 hv.2.1 ?_
      refine z_aload_n (pc := 197) dL_law_197 rfl ?_
      refine z_iload_n (pc := 198) dL_law_198 rfl ?_
      refine z_iconst (pc := 199) (v := 2) dL_law_199 ic_2 ?_
      refine z_iadd (pc := 200) dL_law_200 ?_
      refine z_sld (pc := 201) hX dL_law_201 hv.2.2.1 ?_
      refine z_aload_n (pc := 202) dL_law_202 rfl ?_
      refine z_iload_n (pc := 203) dL_law_203 rfl ?_
      refine z_iconst (pc := 204) (v := 3) dL_law_204 ic_3 ?_
      refine z_iadd (pc := 205) dL_law_205 ?_
      refine z_sld (pc := 206) hX dL_law_206 hv.2.2.2.1 ?_
      refine k_cVi (pc := 207) (av := [.int (xs (Int32.toNatClampNeg (x3 + 1))), .int (xs (Int32.toNatClampNeg (x3 + 2))), .int (xs (Int32.toNatClampNeg (x3 + 3)))]) zc7 rfl dL_law_207 lk_L_17 rfl (by decide) (by decide) (by decide) rfl rfl h (fun r102 f102 h => ?_)
      refine z_icmp_eq (pc := 210) (t := 1115) dL_law_210 (by decide) (fun c_210 => ?_) (fun c_210 => ?_)
      · replace h := h.1 c_210
        refine z_iinc (pc := 1115) (v := (x3 + 6)) (lv' := [(3, .int (x3 + 6)), (0, .ref 1200), (1, .ref 0), (2, .ref 52)]) dL_law_1115 rfl (congrArg (fun z => x3 + z) ic_6) (Nat.le_of_ble_eq_true rfl) rfl ?_
        refine z_goto (pc := 1118) (t := 18) dL_law_1118 (by decide) ?_
        exact z_sub [1, 2, 3, 0] rfl h
      · replace h := h.2 c_210
        refine z_iconst (pc := 213) (v := 0) dL_law_213 ic_0 ?_
        exact h.elim
    · replace h := h.2.1 c_33_1
      refine z_aload_n (pc := 215) dL_law_215 rfl ?_
      refine z_aload_n (pc := 216) dL_law_216 rfl ?_
      refine z_iload_n (pc := 217) dL_law_217 rfl ?_
      refine z_iconst (pc := 218) (v := 1) dL_law_218 ic_1 ?_
      refine z_iadd (pc := 219) dL_law_219 ?_
      refine z_sld (pc := 220) hX dL_law_220 hv.2.1 ?_
      refine z_aload_n (pc := 221) dL_law_221 rfl ?_
      refine z_iload_n (pc := 222) dL_law_222 rfl ?_
      refine z_iconst (pc := 223) (v := 2) dL_law_223 ic_2 ?_
      refine z_iadd (pc := 224) dL_law_224 ?_
      refine z_sld (pc := 225) hX dL_law_225 hv.2.2.1 ?_
      refine z_aload_n (pc := 226) dL_law_226 rfl ?_
      refine z_iload_n (pc := 227) dL_law_227 rfl ?_
      refine z_iconst (pc := 228) (v := 3) dL_law_228 ic_3 ?_
      refine z_iadd (pc := 229) dL_law_229 ?_
      refine z_sld (pc := 230) hX dL_law_230 hv.2.2.2.1 ?_
      refine k_cVi (pc := 231) (av := [.int (xs (Int32.toNatClampNeg (x3 + 1))), .int (xs (Int32.toNatClampNeg (x3 + 2))), .int (xs (Int32.toNatClampNeg (x3 + 3)))]) zc6 rfl dL_law_231 lk_L_18 rfl (by decide) (by decide) (by decide) rfl rfl h (fun r103 f103 h => ?_)
      refine z_aload_n (pc := 234) dL_law_234 rfl ?_
      refine z_aload_n (pc := 235) dL_law_235 rfl ?_
      refine z_iload_n (pc := 236) dL_law_236 rfl ?_
      refine z_iconst (pc := 237) (v := 1) dL_law_237 ic_1 ?_
      refine z_iadd (pc := 238) dL_law_238 ?_
      refine z_sld (pc := 239) hX dL_law_239 hv.2.1 ?_
      refine z_aload_n (pc := 240) dL_law_240 rfl ?_
      refine z_iload_n (pc := 241) dL_law_241 rfl ?_
      refine z_iconst (pc := 242) (v := 2) dL_law_242 ic_2 ?_
      refine z_iadd (pc := 243) dL_law_243 ?_
      refine z_sld (pc := 244) hX dL_law_244 hv.2.2.1 ?_
      refine z_aload_n (pc := 245) dL_law_245 rfl ?_
      refine z_iload_n (pc := 246) dL_law_246 rfl ?_
      refine z_iconst (pc := 247) (v := 3) dL_law_247 ic_3 ?_
      refine z_iadd (pc := 248) dL_law_248 ?_
      refine z_sld (pc := 249) hX dL_law_249 hv.2.2.2.1 ?_
      refine k_cVi (pc := 250) (av := [.int (xs (Int32.toNatClampNeg (x3 + 1))), .int (xs (Int32.toNatClampNeg (x3 + 2))), .int (xs (Int32.toNatClampNeg (x3 + 3)))]) zc7 rfl dL_law_250 lk_L_21 rfl (by decide) (by decide) (by decide) rfl rfl h (fun r104 f104 h => ?_)
      refine z_icmp_eq (pc := 253) (t := 1115) dL_law_253 (by decide) (fun c_253 => ?_) (fun c_253 => ?_)
      · replace h := h.1 c_253
        refine z_iinc (pc := 1115) (v := (x3 + 6)) (lv' := [(3, .int (x3 + 6)), (0, .ref 1200), (1, .ref 0), (2, .ref 52)]) dL_law_1115 rfl (congrArg (fun z => x3 + z) ic_6) (Nat.le_of_ble_eq_true rfl) rfl ?_
        refine z_goto (pc := 1118) (t := 18) dL_law_1118 (by decide) ?_
        exact z_sub [1, 2, 3, 0] rfl h
      · replace h := h.2 c_253
        refine z_iconst (pc := 256) (v := 0) dL_law_256 ic_0 ?_
        exact h.elim
    · replace h := h.2.2.1 c_33_2
      refine z_aload_n (pc := 258) dL_law_258 rfl ?_
      refine z_aload_n (pc := 259) dL_law_259 rfl ?_
      refine z_iload_n (pc := 260) dL_law_260 rfl ?_
      refine z_iconst (pc := 261) (v := 1) dL_law_261 ic_1 ?_
      refine z_iadd (pc := 262) dL_law_262 ?_
      refine z_sld (pc := 263) hX dL_law_263 hv.2.1 ?_
      refine z_aload_n (pc := 264) dL_law_264 rfl ?_
      refine z_iload_n (pc := 265) dL_law_265 rfl ?_
      refine z_iconst (pc := 266) (v := 2) dL_law_266 ic_2 ?_
      refine z_iadd (pc := 267) dL_law_267 ?_
      refine z_sld (pc := 268) hX dL_law_268 hv.2.2.1 ?_
      refine z_aload_n (pc := 269) dL_law_269 rfl ?_
      refine z_iload_n (pc := 270) dL_law_270 rfl ?_
      refine z_iconst (pc := 271) (v := 3) dL_law_271 ic_3 ?_
      refine z_iadd (pc := 272) dL_law_272 ?_
      refine z_sld (pc := 273) hX dL_law_273 hv.2.2.2.1 ?_
      refine z_aload_n (pc := 274) dL_law_274 rfl ?_
      refine z_iload_n (pc := 275) dL_law_275 rfl ?_
      refine z_iconst (pc := 276) (v := 4) dL_law_276 ic_4 ?_
      refine z_iadd (pc := 277) dL_law_277 ?_
      refine z_sld (pc := 278) hX dL_law_278 hv.2.2.2.2.1 ?_
      refine z_aload_n (pc := 279) dL_law_279 rfl ?_
      refine z_iload_n (pc := 280) dL_law_280 rfl ?_
      refine z_iconst (pc := 281) (v := 5) dL_law_281 ic_5 ?_
      refine z_iadd (pc := 282) dL_law_282 ?_
      refine z_sld (pc := 283) hX dL_law_283 hv.2.2.2.2.2 ?_
      refine k_cVi (pc := 284) (av := [.int (xs (Int32.toNatClampNeg (x3 + 1))), .int (xs (Int32.toNatClampNeg (x3 + 2))), .int (xs (Int32.toNatClampNeg (x3 + 3))), .int (xs (Int32.toNatClampNeg (x3 + 4))), .int (xs (Int32.toNatClampNeg (x3 + 5)))]) zc6 rfl dL_law_284 lk_L_22 rfl (by decide) (by decide) (by decide) rfl rfl h (fun r105 f105 h => ?_)
      refine z_aload_n (pc := 287) dL_law_287 rfl ?_
      refine z_aload_n (pc := 288) dL_law_288 rfl ?_
      refine z_iload_n (pc := 289) dL_law_289 rfl ?_
      refine z_iconst (pc := 290) (v := 1) dL_law_290 ic_1 ?_
      refine z_iadd (pc := 291) dL_law_291 ?_
      refine z_sld (pc := 292) hX dL_law_292 hv.2.1 ?_
      refine z_aload_n (pc := 293) dL_law_293 rfl ?_
      refine z_iload_n (pc := 294) dL_law_294 rfl ?_
      refine z_iconst (pc := 295) (v := 2) dL_law_295 ic_2 ?_
      refine z_iadd (pc := 296) dL_law_296 ?_
      refine z_sld (pc := 297) hX dL_law_297 hv.2.2.1 ?_
      refine z_aload_n (pc := 298) dL_law_298 rfl ?_
      refine z_iload_n (pc := 299) dL_law_299 rfl ?_
      refine z_iconst (pc := 300) (v := 3) dL_law_300 ic_3 ?_
      refine z_iadd (pc := 301) dL_law_301 ?_
      refine z_sld (pc := 302) hX dL_law_302 hv.2.2.2.1 ?_
      refine z_aload_n (pc := 303) dL_law_303 rfl ?_
      refine z_iload_n (pc := 304) dL_law_304 rfl ?_
      refine z_iconst (pc := 305) (v := 4) dL_law_305 ic_4 ?_
      refine z_iadd (pc := 306) dL_law_306 ?_
      refine z_sld (pc := 307) hX dL_law_307 hv.2.2.2.2.1 ?_
      refine z_aload_n (pc := 308) dL_law_308 rfl ?_
      refine z_iload_n (pc := 309) dL_law_309 rfl ?_
      refine z_iconst (pc := 310) (v := 5) dL_law_310 ic_5 ?_
      refine z_iadd (pc := 311) dL_law_311 ?_
      refine z_sld (pc := 312) hX dL_law_312 hv.2.2.2.2.2 ?_
      refine k_cVi (pc := 313) (av := [.int (xs (Int32.toNatClampNeg (x3 + 1))), .int (xs (Int32.toNatClampNeg (x3 + 2))), .int (xs (Int32.toNatClampNeg (x3 + 3))), .int (xs (Int32.toNatClampNeg (x3 + 4))), .int (xs (Int32.toNatClampNeg (x3 + 5)))]) zc7 rfl dL_law_313 lk_L_26 rfl (by decide) (by decide) (by decide) rfl rfl h (fun r106 f106 h => ?_)
      refine z_icmp_eq (pc := 316) (t := 1115) dL_law_316 (by decide) (fun c_316 => ?_) (fun c_316 => ?_)
      · replace h := h.1 c_316
        refine z_iinc (pc := 1115) (v := (x3 + 6)) (lv' := [(3, .int (x3 + 6)), (0, .ref 1200), (1, .ref 0), (2, .ref 52)]) dL_law_1115 rfl (congrArg (fun z => x3 + z) ic_6) (Nat.le_of_ble_eq_true rfl) rfl ?_
        refine z_goto (pc := 1118) (t := 18) dL_law_1118 (by decide) ?_
        exact z_sub [1, 2, 3, 0] rfl h
      · replace h := h.2 c_316
        refine z_iconst (pc := 319) (v := 0) dL_law_319 ic_0 ?_
        exact h.elim
    · replace h := h.2.2.2.1 c_33_3
      refine z_aload_n (pc := 321) dL_law_321 rfl ?_
      refine z_aload_n (pc := 322) dL_law_322 rfl ?_
      refine z_iload_n (pc := 323) dL_law_323 rfl ?_
      refine z_iconst (pc := 324) (v := 1) dL_law_324 ic_1 ?_
      refine z_iadd (pc := 325) dL_law_325 ?_
      refine z_sld (pc := 326) hX dL_law_326 hv.2.1 ?_
      refine k_cVi (pc := 327) (av := [.int (xs (Int32.toNatClampNeg (x3 + 1)))]) zc6 rfl dL_law_327 lk_L_27 rfl (by decide) (by decide) (by decide) rfl rfl h (fun r107 f107 h => ?_)
      refine z_aload_n (pc := 330) dL_law_330 rfl ?_
      refine z_aload_n (pc := 331) dL_law_331 rfl ?_
      refine z_iload_n (pc := 332) dL_law_332 rfl ?_
      refine z_iconst (pc := 333) (v := 1) dL_law_333 ic_1 ?_
      refine z_iadd (pc := 334) dL_law_334 ?_
      refine z_sld (pc := 335) hX dL_law_335 hv.2.1 ?_
      refine k_cVi (pc := 336) (av := [.int (xs (Int32.toNatClampNeg (x3 + 1)))]) zc7 rfl dL_law_336 lk_L_31 rfl (by decide) (by decide) (by decide) rfl rfl h (fun r108 f108 h => ?_)
      refine z_icmp_eq (pc := 339) (t := 1115) dL_law_339 (by decide) (fun c_339 => ?_) (fun c_339 => ?_)
      · replace h := h.1 c_339
        refine z_iinc (pc := 1115) (v := (x3 + 6)) (lv' := [(3, .int (x3 + 6)), (0, .ref 1200), (1, .ref 0), (2, .ref 52)]) dL_law_1115 rfl (congrArg (fun z => x3 + z) ic_6) (Nat.le_of_ble_eq_true rfl) rfl ?_
        refine z_goto (pc := 1118) (t := 18) dL_law_1118 (by decide) ?_
        exact z_sub [1, 2, 3, 0] rfl h
      · replace h := h.2 c_339
        refine z_iconst (pc := 342) (v := 0) dL_law_342 ic_0 ?_
        exact h.elim
    · replace h := h.2.2.2.2.1 c_33_4
      refine z_aload_n (pc := 344) dL_law_344 rfl ?_
      refine z_aload_n (pc := 345) dL_law_345 rfl ?_
      refine z_iload_n (pc := 346) dL_law_346 rfl ?_
      refine z_iconst (pc := 347) (v := 1) dL_law_347 ic_1 ?_
      refine z_iadd (pc := 348) dL_law_348 ?_
      refine z_sld (pc := 349) hX dL_law_349 hv.2.1 ?_
      refine z_i2l (pc := 350) dL_law_350 ?_
      refine z_bipush (pc := 351) (v := 32) dL_law_351 bi_32 ?_
      refine z_lshl (pc := 353) dL_law_353 ?_
      refine z_aload_n (pc := 354) dL_law_354 rfl ?_
      refine z_iload_n (pc := 355) dL_law_355 rfl ?_
      refine z_iconst (pc := 356) (v := 2) dL_law_356 ic_2 ?_
      refine z_iadd (pc := 357) dL_law_357 ?_
      refine z_sld (pc := 358) hX dL_law_358 hv.2.2.1 ?_
      refine z_i2l (pc := 359) dL_law_359 ?_
      refine z_ldc2 (pc := 360) (v := 4294967295) dL_law_360 co_L_32 ?_
      refine z_land (pc := 363) dL_law_363 ?_
      refine z_lor (pc := 364) dL_law_364 ?_
      refine z_aload_n (pc := 365) dL_law_365 rfl ?_
      refine z_iload_n (pc := 366) dL_law_366 rfl ?_
      refine z_iconst (pc := 367) (v := 3) dL_law_367 ic_3 ?_
      refine z_iadd (pc := 368) dL_law_368 ?_
      refine z_sld (pc := 369) hX dL_law_369 hv.2.2.2.1 ?_
      refine k_cVi (pc := 370) (av := [.long (((Int32.toInt64 (xs (Int32.toNatClampNeg (x3 + 1)))) <<< (Int32.toInt64 32 &&& 63)) ||| ((Int32.toInt64 (xs (Int32.toNatClampNeg (x3 + 2)))) &&& 4294967295)), .int (xs (Int32.toNatClampNeg (x3 + 3)))]) zc6 rfl dL_law_370 lk_L_34 rfl (by decide) (by decide) (by decide) rfl rfl h (fun r109 f109 h => ?_)
      refine z_aload_n (pc := 373) dL_law_373 rfl ?_
      refine z_aload_n (pc := 374) dL_law_374 rfl ?_
      refine z_iload_n (pc := 375) dL_law_375 rfl ?_
      refine z_iconst (pc := 376) (v := 1) dL_law_376 ic_1 ?_
      refine z_iadd (pc := 377) dL_law_377 ?_
      refine z_sld (pc := 378) hX dL_law_378 hv.2.1 ?_
      refine z_i2l (pc := 379) dL_law_379 ?_
      refine z_bipush (pc := 380) (v := 32) dL_law_380 bi_32 ?_
      refine z_lshl (pc := 382) dL_law_382 ?_
      refine z_aload_n (pc := 383) dL_law_383 rfl ?_
      refine z_iload_n (pc := 384) dL_law_384 rfl ?_
      refine z_iconst (pc := 385) (v := 2) dL_law_385 ic_2 ?_
      refine z_iadd (pc := 386) dL_law_386 ?_
      refine z_sld (pc := 387) hX dL_law_387 hv.2.2.1 ?_
      refine z_i2l (pc := 388) dL_law_388 ?_
      refine z_ldc2 (pc := 389) (v := 4294967295) dL_law_389 co_L_32 ?_
      refine z_land (pc := 392) dL_law_392 ?_
      refine z_lor (pc := 393) dL_law_393 ?_
      refine z_aload_n (pc := 394) dL_law_394 rfl ?_
      refine z_iload_n (pc := 395) dL_law_395 rfl ?_
      refine z_iconst (pc := 396) (v := 3) dL_law_396 ic_3 ?_
      refine z_iadd (pc := 397) dL_law_397 ?_
      refine z_sld (pc := 398) hX dL_law_398 hv.2.2.2.1 ?_
      refine k_cVi (pc := 399) (av := [.long (((Int32.toInt64 (xs (Int32.toNatClampNeg (x3 + 1)))) <<< (Int32.toInt64 32 &&& 63)) ||| ((Int32.toInt64 (xs (Int32.toNatClampNeg (x3 + 2)))) &&& 4294967295)), .int (xs (Int32.toNatClampNeg (x3 + 3)))]) zc7 rfl dL_law_399 lk_L_38 rfl (by decide) (by decide) (by decide) rfl rfl h (fun r110 f110 h => ?_)
      refine z_icmp_eq (pc := 402) (t := 1115) dL_law_402 (by decide) (fun c_402 => ?_) (fun c_402 => ?_)
      · replace h := h.1 c_402
        refine z_iinc (pc := 1115) (v := (x3 + 6)) (lv' := [(3, .int (x3 + 6)), (0, .ref 1200), (1, .ref 0), (2, .ref 52)]) dL_law_1115 rfl (congrArg (fun z => x3 + z) ic_6) (Nat.le_of_ble_eq_true rfl) rfl ?_
        refine z_goto (pc := 1118) (t := 18) dL_law_1118 (by decide) ?_
        exact z_sub [1, 2, 3, 0] rfl h
      · replace h := h.2 c_402
        refine z_iconst (pc := 405) (v := 0) dL_law_405 ic_0 ?_
        exact h.elim
    · replace h := h.2.2.2.2.2.1 c_33_5
      refine z_aload_n (pc := 407) dL_law_407 rfl ?_
      refine k_cVi (pc := 408) (av := []) zc6 rfl dL_law_408 lk_L_39 rfl (by decide) (by decide) (by decide) rfl rfl h (fun r111 f111 h => ?_)
      refine z_aload_n (pc := 411) dL_law_411 rfl ?_
      refine k_cVi (pc := 412) (av := []) zc7 rfl dL_law_412 lk_L_43 rfl (by decide) (by decide) (by decide) rfl rfl h (fun r112 f112 h => ?_)
      refine z_icmp_eq (pc := 415) (t := 1115) dL_law_415 (by decide) (fun c_415 => ?_) (fun c_415 => ?_)
      · replace h := h.1 c_415
        refine z_iinc (pc := 1115) (v := (x3 + 6)) (lv' := [(3, .int (x3 + 6)), (0, .ref 1200), (1, .ref 0), (2, .ref 52)]) dL_law_1115 rfl (congrArg (fun z => x3 + z) ic_6) (Nat.le_of_ble_eq_true rfl) rfl ?_
        refine z_goto (pc := 1118) (t := 18) dL_law_1118 (by decide) ?_
        exact z_sub [1, 2, 3, 0] rfl h
      · replace h := h.2 c_415
        refine z_iconst (pc := 418) (v := 0) dL_law_418 ic_0 ?_
        exact h.elim
    · replace h := h.2.2.2.2.2.2.1 c_33_6
      refine z_aload_n (pc := 420) dL_law_420 rfl ?_
      refine k_cVi (pc := 421) (av := []) zc6 rfl dL_law_421 lk_L_44 rfl (by decide) (by decide) (by decide) rfl rfl h (fun r113 f113 h => ?_)
      refine z_aload_n (pc := 424) dL_law_424 rfl ?_
      refine k_cVi (pc := 425) (av := []) zc7 rfl dL_law_425 lk_L_47 rfl (by decide) (by decide) (by decide) rfl rfl h (fun r114 f114 h => ?_)
      refine z_icmp_eq (pc := 428) (t := 1115) dL_law_428 (by decide) (fun c_428 => ?_) (fun c_428 => ?_)
      · replace h := h.1 c_428
        refine z_iinc (pc := 1115) (v := (x3 + 6)) (lv' := [(3, .int (x3 + 6)), (0, .ref 1200), (1, .ref 0), (2, .ref 52)]) dL_law_1115 rfl (congrArg (fun z => x3 + z) ic_6) (Nat.le_of_ble_eq_true rfl) rfl ?_
        refine z_goto (pc := 1118) (t := 18) dL_law_1118 (by decide) ?_
        exact z_sub [1, 2, 3, 0] rfl h
      · replace h := h.2 c_428
        refine z_iconst (pc := 431) (v := 0) dL_law_431 ic_0 ?_
        exact h.elim
    · replace h := h.2.2.2.2.2.2.2.1 c_33_7
      refine z_aload_n (pc := 433) dL_law_433 rfl ?_
      refine z_aload_n (pc := 434) dL_law_434 rfl ?_
      refine z_iload_n (pc := 435) dL_law_435 rfl ?_
      refine z_iconst (pc := 436) (v := 1) dL_law_436 ic_1 ?_
      refine z_iadd (pc := 437) dL_law_437 ?_
      refine z_sld (pc := 438) hX dL_law_438 hv.2.1 ?_
      refine z_aload_n (pc := 439) dL_law_439 rfl ?_
      refine z_iload_n (pc := 440) dL_law_440 rfl ?_
      refine z_iconst (pc := 441) (v := 2) dL_law_441 ic_2 ?_
      refine z_iadd (pc := 442) dL_law_442 ?_
      refine z_sld (pc := 443) hX dL_law_443 hv.2.2.1 ?_
      refine z_aload_n (pc := 444) dL_law_444 rfl ?_
      refine z_iload_n (pc := 445) dL_law_445 rfl ?_
      refine z_iconst (pc := 446) (v := 3) dL_law_446 ic_3 ?_
      refine z_iadd (pc := 447) dL_law_447 ?_
      refine z_sld (pc := 448) hX dL_law_448 hv.2.2.2.1 ?_
      refine k_cVi (pc := 449) (av := [.int (xs (Int32.toNatClampNeg (x3 + 1))), .int (xs (Int32.toNatClampNeg (x3 + 2))), .int (xs (Int32.toNatClampNeg (x3 + 3)))]) zc6 rfl dL_law_449 lk_L_48 rfl (by decide) (by decide) (by decide) rfl rfl h (fun r115 f115 h => ?_)
      refine z_aload_n (pc := 452) dL_law_452 rfl ?_
      refine z_aload_n (pc := 453) dL_law_453 rfl ?_
      refine z_iload_n (pc := 454) dL_law_454 rfl ?_
      refine z_iconst (pc := 455) (v := 1) dL_law_455 ic_1 ?_
      refine z_iadd (pc := 456) dL_law_456 ?_
      refine z_sld (pc := 457) hX dL_law_457 hv.2.1 ?_
      refine z_aload_n (pc := 458) dL_law_458 rfl ?_
      refine z_iload_n (pc := 459) dL_law_459 rfl ?_
      refine z_iconst (pc := 460) (v := 2) dL_law_460 ic_2 ?_
      refine z_iadd (pc := 461) dL_law_461 ?_
      refine z_sld (pc := 462) hX dL_law_462 hv.2.2.1 ?_
      refine z_aload_n (pc := 463) dL_law_463 rfl ?_
      refine z_iload_n (pc := 464) dL_law_464 rfl ?_
      refine z_iconst (pc := 465) (v := 3) dL_law_465 ic_3 ?_
      refine z_iadd (pc := 466) dL_law_466 ?_
      refine z_sld (pc := 467) hX dL_law_467 hv.2.2.2.1 ?_
      refine k_cVi (pc := 468) (av := [.int (xs (Int32.toNatClampNeg (x3 + 1))), .int (xs (Int32.toNatClampNeg (x3 + 2))), .int (xs (Int32.toNatClampNeg (x3 + 3)))]) zc7 rfl dL_law_468 lk_L_51 rfl (by decide) (by decide) (by decide) rfl rfl h (fun r116 f116 h => ?_)
      refine z_icmp_eq (pc := 471) (t := 1115) dL_law_471 (by decide) (fun c_471 => ?_) (fun c_471 => ?_)
      · replace h := h.1 c_471
        refine z_iinc (pc := 1115) (v := (x3 + 6)) (lv' := [(3, .int (x3 + 6)), (0, .ref 1200), (1, .ref 0), (2, .ref 52)]) dL_law_1115 rfl (congrArg (fun z => x3 + z) ic_6) (Nat.le_of_ble_eq_true rfl) rfl ?_
        refine z_goto (pc := 1118) (t := 18) dL_law_1118 (by decide) ?_
        exact z_sub [1, 2, 3, 0] rfl h
      · replace h := h.2 c_471
        refine z_iconst (pc := 474) (v := 0) dL_law_474 ic_0 ?_
        exact h.elim
    · replace h := h.2.2.2.2.2.2.2.2.1 c_33_8
      refine z_aload_n (pc := 476) dL_law_476 rfl ?_
      refine k_cVi (pc := 477) (av := []) zc6 rfl dL_law_477 lk_L_52 rfl (by decide) (by decide) (by decide) rfl rfl h (fun r117 f117 h => ?_)
      refine z_aload_n (pc := 480) dL_law_480 rfl ?_
      refine k_cVi (pc := 481) (av := []) zc7 rfl dL_law_481 lk_L_55 rfl (by decide) (by decide) (by decide) rfl rfl h (fun r118 f118 h => ?_)
      refine z_icmp_eq (pc := 484) (t := 1115) dL_law_484 (by decide) (fun c_484 => ?_) (fun c_484 => ?_)
      · replace h := h.1 c_484
        refine z_iinc (pc := 1115) (v := (x3 + 6)) (lv' := [(3, .int (x3 + 6)), (0, .ref 1200), (1, .ref 0), (2, .ref 52)]) dL_law_1115 rfl (congrArg (fun z => x3 + z) ic_6) (Nat.le_of_ble_eq_true rfl) rfl ?_
        refine z_goto (pc := 1118) (t := 18) dL_law_1118 (by decide) ?_
        exact z_sub [1, 2, 3, 0] rfl h
      · replace h := h.2 c_484
        refine z_iconst (pc := 487) (v := 0) dL_law_487 ic_0 ?_
        exact h.elim
    · replace h := h.2.2.2.2.2.2.2.2.2.1 c_33_9
      refine z_aload_n (pc := 489) dL_law_489 rfl ?_
      refine k_cVi (pc := 490) (av := []) zc6 rfl dL_law_490 lk_L_56 rfl (by decide) (by decide) (by decide) rfl rfl h (fun r119 f119 h => ?_)
      refine z_aload_n (pc := 493) dL_law_493 rfl ?_
      refine k_cVi (pc := 494) (av := []) zc7 rfl dL_law_494 lk_L_59 rfl (by decide) (by decide) (by decide) rfl rfl h (fun r120 f120 h => ?_)
      refine z_icmp_eq (pc := 497) (t := 1115) dL_law_497 (by decide) (fun c_497 => ?_) (fun c_497 => ?_)
      · replace h := h.1 c_497
        refine z_iinc (pc := 1115) (v := (x3 + 6)) (lv' := [(3, .int (x3 + 6)), (0, .ref 1200), (1, .ref 0), (2, .ref 52)]) dL_law_1115 rfl (congrArg (fun z => x3 + z) ic_6) (Nat.le_of_ble_eq_true rfl) rfl ?_
        refine z_goto (pc := 1118) (t := 18) dL_law_1118 (by decide) ?_
        exact z_sub [1, 2, 3, 0] rfl h
      · replace h := h.2 c_497
        refine z_iconst (pc := 500) (v := 0) dL_law_500 ic_0 ?_
        exact h.elim
    · replace h := h.2.2.2.2.2.2.2.2.2.2.1 c_33_10
      refine z_aload_n (pc := 502) dL_law_502 rfl ?_
      refine z_aload_n (pc := 503) dL_law_503 rfl ?_
      refine z_iload_n (pc := 504) dL_law_504 rfl ?_
      refine z_iconst (pc := 505) (v := 1) dL_law_505 ic_1 ?_
      refine z_iadd (pc := 506) dL_law_506 ?_
      refine z_sld (pc := 507) hX dL_law_507 hv.2.1 ?_
      refine z_aload_n (pc := 508) dL_law_508 rfl ?_
      refine z_iload_n (pc := 509) dL_law_509 rfl ?_
      refine z_iconst (pc := 510) (v := 2) dL_law_510 ic_2 ?_
      refine z_iadd (pc := 511) dL_law_511 ?_
      refine z_sld (pc := 512) hX dL_law_512 hv.2.2.1 ?_
      refine k_cVi (pc := 513) (av := [.int (xs (Int32.toNatClampNeg (x3 + 1))), .int (xs (Int32.toNatClampNeg (x3 + 2)))]) zc6 rfl dL_law_513 lk_L_60 rfl (by decide) (by decide) (by decide) rfl rfl h (fun r121 f121 h => ?_)
      refine z_aload_n (pc := 516) dL_law_516 rfl ?_
      refine z_aload_n (pc := 517) dL_law_517 rfl ?_
      refine z_iload_n (pc := 518) dL_law_518 rfl ?_
      refine z_iconst (pc := 519) (v := 1) dL_law_519 ic_1 ?_
      refine z_iadd (pc := 520) dL_law_520 ?_
      refine z_sld (pc := 521) hX dL_law_521 hv.2.1 ?_
      refine z_aload_n (pc := 522) dL_law_522 rfl ?_
      refine z_iload_n (pc := 523) dL_law_523 rfl ?_
      refine z_iconst (pc := 524) (v := 2) dL_law_524 ic_2 ?_
      refine z_iadd (pc := 525) dL_law_525 ?_
      refine z_sld (pc := 526) hX dL_law_526 hv.2.2.1 ?_
      refine k_cVi (pc := 527) (av := [.int (xs (Int32.toNatClampNeg (x3 + 1))), .int (xs (Int32.toNatClampNeg (x3 + 2)))]) zc7 rfl dL_law_527 lk_L_64 rfl (by decide) (by decide) (by decide) rfl rfl h (fun r122 f122 h => ?_)
      refine z_icmp_eq (pc := 530) (t := 1115) dL_law_530 (by decide) (fun c_530 => ?_) (fun c_530 => ?_)
      · replace h := h.1 c_530
        refine z_iinc (pc := 1115) (v := (x3 + 6)) (lv' := [(3, .int (x3 + 6)), (0, .ref 1200), (1, .ref 0), (2, .ref 52)]) dL_law_1115 rfl (congrArg (fun z => x3 + z) ic_6) (Nat.le_of_ble_eq_true rfl) rfl ?_
        refine z_goto (pc := 1118) (t := 18) dL_law_1118 (by decide) ?_
        exact z_sub [1, 2, 3, 0] rfl h
      · replace h := h.2 c_530
        refine z_iconst (pc := 533) (v := 0) dL_law_533 ic_0 ?_
        exact h.elim
    · replace h := h.2.2.2.2.2.2.2.2.2.2.2.1 c_33_11
      refine z_aload_n (pc := 535) dL_law_535 rfl ?_
      refine z_aload_n (pc := 536) dL_law_536 rfl ?_
      refine z_iload_n (pc := 537) dL_law_537 rfl ?_
      refine z_iconst (pc := 538) (v := 1) dL_law_538 ic_1 ?_
      refine z_iadd (pc := 539) dL_law_539 ?_
      refine z_sld (pc := 540) hX dL_law_540 hv.2.1 ?_
      refine z_aload_n (pc := 541) dL_law_541 rfl ?_
      refine z_iload_n (pc := 542) dL_law_542 rfl ?_
      refine z_iconst (pc := 543) (v := 2) dL_law_543 ic_2 ?_
      refine z_iadd (pc := 544) dL_law_544 ?_
      refine z_sld (pc := 545) hX dL_law_545 hv.2.2.1 ?_
      refine k_cVi (pc := 546) (av := [.int (xs (Int32.toNatClampNeg (x3 + 1))), .int (xs (Int32.toNatClampNeg (x3 + 2)))]) zc6 rfl dL_law_546 lk_L_65 rfl (by decide) (by decide) (by decide) rfl rfl h (fun r123 f123 h => ?_)
      refine z_aload_n (pc := 549) dL_law_549 rfl ?_
      refine z_aload_n (pc := 550) dL_law_550 rfl ?_
      refine z_iload_n (pc := 551) dL_law_551 rfl ?_
      refine z_iconst (pc := 552) (v := 1) dL_law_552 ic_1 ?_
      refine z_iadd (pc := 553) dL_law_553 ?_
      refine z_sld (pc := 554) hX dL_law_554 hv.2.1 ?_
      refine z_aload_n (pc := 555) dL_law_555 rfl ?_
      refine z_iload_n (pc := 556) dL_law_556 rfl ?_
      refine z_iconst (pc := 557) (v := 2) dL_law_557 ic_2 ?_
      refine z_iadd (pc := 558) dL_law_558 ?_
      refine z_sld (pc := 559) hX dL_law_559 hv.2.2.1 ?_
      refine k_cVi (pc := 560) (av := [.int (xs (Int32.toNatClampNeg (x3 + 1))), .int (xs (Int32.toNatClampNeg (x3 + 2)))]) zc7 rfl dL_law_560 lk_L_68 rfl (by decide) (by decide) (by decide) rfl rfl h (fun r124 f124 h => ?_)
      refine z_icmp_eq (pc := 563) (t := 1115) dL_law_563 (by decide) (fun c_563 => ?_) (fun c_563 => ?_)
      · replace h := h.1 c_563
        refine z_iinc (pc := 1115) (v := (x3 + 6)) (lv' := [(3, .int (x3 + 6)), (0, .ref 1200), (1, .ref 0), (2, .ref 52)]) dL_law_1115 rfl (congrArg (fun z => x3 + z) ic_6) (Nat.le_of_ble_eq_true rfl) rfl ?_
        refine z_goto (pc := 1118) (t := 18) dL_law_1118 (by decide) ?_
        exact z_sub [1, 2, 3, 0] rfl h
      · replace h := h.2 c_563
        refine z_iconst (pc := 566) (v := 0) dL_law_566 ic_0 ?_
        exact h.elim
    · replace h := h.2.2.2.2.2.2.2.2.2.2.2.2.1 c_33_12
      refine z_aload_n (pc := 568) dL_law_568 rfl ?_
      refine z_aload_n (pc := 569) dL_law_569 rfl ?_
      refine z_iload_n (pc := 570) dL_law_570 rfl ?_
      refine z_iconst (pc := 571) (v := 1) dL_law_571 ic_1 ?_
      refine z_iadd (pc := 572) dL_law_572 ?_
      refine z_sld (pc := 573) hX dL_law_573 hv.2.1 ?_
      refine z_aload_n (pc := 574) dL_law_574 rfl ?_
      refine z_iload_n (pc := 575) dL_law_575 rfl ?_
      refine z_iconst (pc := 576) (v := 2) dL_law_576 ic_2 ?_
      refine z_iadd (pc := 577) dL_law_577 ?_
      refine z_sld (pc := 578) hX dL_law_578 hv.2.2.1 ?_
      refine z_aload_n (pc := 579) dL_law_579 rfl ?_
      refine z_iload_n (pc := 580) dL_law_580 rfl ?_
      refine z_iconst (pc := 581) (v := 3) dL_law_581 ic_3 ?_
      refine z_iadd (pc := 582) dL_law_582 ?_
      refine z_sld (pc := 583) hX dL_law_583 hv.2.2.2.1 ?_
      refine k_cVi (pc := 584) (av := [.int (xs (Int32.toNatClampNeg (x3 + 1))), .int (xs (Int32.toNatClampNeg (x3 + 2))), .int (xs (Int32.toNatClampNeg (x3 + 3)))]) zc6 rfl dL_law_584 lk_L_69 rfl (by decide) (by decide) (by decide) rfl rfl h (fun r125 f125 h => ?_)
      refine z_aload_n (pc := 587) dL_law_587 rfl ?_
      refine z_aload_n (pc := 588) dL_law_588 rfl ?_
      refine z_iload_n (pc := 589) dL_law_589 rfl ?_
      refine z_iconst (pc := 590) (v := 1) dL_law_590 ic_1 ?_
      refine z_iadd (pc := 591) dL_law_591 ?_
      refine z_sld (pc := 592) hX dL_law_592 hv.2.1 ?_
      refine z_aload_n (pc := 593) dL_law_593 rfl ?_
      refine z_iload_n (pc := 594) dL_law_594 rfl ?_
      refine z_iconst (pc := 595) (v := 2) dL_law_595 ic_2 ?_
      refine z_iadd (pc := 596) dL_law_596 ?_
      refine z_sld (pc := 597) hX dL_law_597 hv.2.2.1 ?_
      refine z_aload_n (pc := 598) dL_law_598 rfl ?_
      refine z_iload_n (pc := 599) dL_law_599 rfl ?_
      refine z_iconst (pc := 600) (v := 3) dL_law_600 ic_3 ?_
      refine z_iadd (pc := 601) dL_law_601 ?_
      refine z_sld (pc := 602) hX dL_law_602 hv.2.2.2.1 ?_
      refine k_cVi (pc := 603) (av := [.int (xs (Int32.toNatClampNeg (x3 + 1))), .int (xs (Int32.toNatClampNeg (x3 + 2))), .int (xs (Int32.toNatClampNeg (x3 + 3)))]) zc7 rfl dL_law_603 lk_L_72 rfl (by decide) (by decide) (by decide) rfl rfl h (fun r126 f126 h => ?_)
      refine z_icmp_eq (pc := 606) (t := 1115) dL_law_606 (by decide) (fun c_606 => ?_) (fun c_606 => ?_)
      · replace h := h.1 c_606
        refine z_iinc (pc := 1115) (v := (x3 + 6)) (lv' := [(3, .int (x3 + 6)), (0, .ref 1200), (1, .ref 0), (2, .ref 52)]) dL_law_1115 rfl (congrArg (fun z => x3 + z) ic_6) (Nat.le_of_ble_eq_true rfl) rfl ?_
        refine z_goto (pc := 1118) (t := 18) dL_law_1118 (by decide) ?_
        exact z_sub [1, 2, 3, 0] rfl h
      · replace h := h.2 c_606
        refine z_iconst (pc := 609) (v := 0) dL_law_609 ic_0 ?_
        exact h.elim
    · replace h := h.2.2.2.2.2.2.2.2.2.2.2.2.2.1 c_33_13
      refine z_aload_n (pc := 611) dL_law_611 rfl ?_
      refine z_aload_n (pc := 612) dL_law_612 rfl ?_
      refine z_iload_n (pc := 613) dL_law_613 rfl ?_
      refine z_iconst (pc := 614) (v := 1) dL_law_614 ic_1 ?_
      refine z_iadd (pc := 615) dL_law_615 ?_
      refine z_sld (pc := 616) hX dL_law_616 hv.2.1 ?_
      refine z_aload_n (pc := 617) dL_law_617 rfl ?_
      refine z_iload_n (pc := 618) dL_law_618 rfl ?_
      refine z_iconst (pc := 619) (v := 2) dL_law_619 ic_2 ?_
      refine z_iadd (pc := 620) dL_law_620 ?_
      refine z_sld (pc := 621) hX dL_law_621 hv.2.2.1 ?_
      refine z_aload_n (pc := 622) dL_law_622 rfl ?_
      refine z_iload_n (pc := 623) dL_law_623 rfl ?_
      refine z_iconst (pc := 624) (v := 3) dL_law_624 ic_3 ?_
      refine z_iadd (pc := 625) dL_law_625 ?_
      refine z_sld (pc := 626) hX dL_law_626 hv.2.2.2.1 ?_
      refine z_aload_n (pc := 627) dL_law_627 rfl ?_
      refine z_iload_n (pc := 628) dL_law_628 rfl ?_
      refine z_iconst (pc := 629) (v := 4) dL_law_629 ic_4 ?_
      refine z_iadd (pc := 630) dL_law_630 ?_
      refine z_sld (pc := 631) hX dL_law_631 hv.2.2.2.2.1 ?_
      refine k_cVi (pc := 632) (av := [.int (xs (Int32.toNatClampNeg (x3 + 1))), .int (xs (Int32.toNatClampNeg (x3 + 2))), .int (xs (Int32.toNatClampNeg (x3 + 3))), .int (xs (Int32.toNatClampNeg (x3 + 4)))]) zc6 rfl dL_law_632 lk_L_73 rfl (by decide) (by decide) (by decide) rfl rfl h (fun r127 f127 h => ?_)
      refine z_aload_n (pc := 635) dL_law_635 rfl ?_
      refine z_aload_n (pc := 636) dL_law_636 rfl ?_
      refine z_iload_n (pc := 637) dL_law_637 rfl ?_
      refine z_iconst (pc := 638) (v := 1) dL_law_638 ic_1 ?_
      refine z_iadd (pc := 639) dL_law_639 ?_
      refine z_sld (pc := 640) hX dL_law_640 hv.2.1 ?_
      refine z_aload_n (pc := 641) dL_law_641 rfl ?_
      refine z_iload_n (pc := 642) dL_law_642 rfl ?_
      refine z_iconst (pc := 643) (v := 2) dL_law_643 ic_2 ?_
      refine z_iadd (pc := 644) dL_law_644 ?_
      refine z_sld (pc := 645) hX dL_law_645 hv.2.2.1 ?_
      refine z_aload_n (pc := 646) dL_law_646 rfl ?_
      refine z_iload_n (pc := 647) dL_law_647 rfl ?_
      refine z_iconst (pc := 648) (v := 3) dL_law_648 ic_3 ?_
      refine z_iadd (pc := 649) dL_law_649 ?_
      refine z_sld (pc := 650) hX dL_law_650 hv.2.2.2.1 ?_
      refine z_aload_n (pc := 651) dL_law_651 rfl ?_
      refine z_iload_n (pc := 652) dL_law_652 rfl ?_
      refine z_iconst (pc := 653) (v := 4) dL_law_653 ic_4 ?_
      refine z_iadd (pc := 654) dL_law_654 ?_
      refine z_sld (pc := 655) hX dL_law_655 hv.2.2.2.2.1 ?_
      refine k_cVi (pc := 656) (av := [.int (xs (Int32.toNatClampNeg (x3 + 1))), .int (xs (Int32.toNatClampNeg (x3 + 2))), .int (xs (Int32.toNatClampNeg (x3 + 3))), .int (xs (Int32.toNatClampNeg (x3 + 4)))]) zc7 rfl dL_law_656 lk_L_77 rfl (by decide) (by decide) (by decide) rfl rfl h (fun r128 f128 h => ?_)
      refine z_icmp_eq (pc := 659) (t := 1115) dL_law_659 (by decide) (fun c_659 => ?_) (fun c_659 => ?_)
      · replace h := h.1 c_659
        refine z_iinc (pc := 1115) (v := (x3 + 6)) (lv' := [(3, .int (x3 + 6)), (0, .ref 1200), (1, .ref 0), (2, .ref 52)]) dL_law_1115 rfl (congrArg (fun z => x3 + z) ic_6) (Nat.le_of_ble_eq_true rfl) rfl ?_
        refine z_goto (pc := 1118) (t := 18) dL_law_1118 (by decide) ?_
        exact z_sub [1, 2, 3, 0] rfl h
      · replace h := h.2 c_659
        refine z_iconst (pc := 662) (v := 0) dL_law_662 ic_0 ?_
        exact h.elim
    · replace h := h.2.2.2.2.2.2.2.2.2.2.2.2.2.2.1 c_33_14
      refine z_aload_n (pc := 664) dL_law_664 rfl ?_
      refine z_aload_n (pc := 665) dL_law_665 rfl ?_
      refine z_iload_n (pc := 666) dL_law_666 rfl ?_
      refine z_iconst (pc := 667) (v := 1) dL_law_667 ic_1 ?_
      refine z_iadd (pc := 668) dL_law_668 ?_
      refine z_sld (pc := 669) hX dL_law_669 hv.2.1 ?_
      refine z_aload_n (pc := 670) dL_law_670 rfl ?_
      refine z_iload_n (pc := 671) dL_law_671 rfl ?_
      refine z_iconst (pc := 672) (v := 2) dL_law_672 ic_2 ?_
      refine z_iadd (pc := 673) dL_law_673 ?_
      refine z_sld (pc := 674) hX dL_law_674 hv.2.2.1 ?_
      refine k_cVi (pc := 675) (av := [.int (xs (Int32.toNatClampNeg (x3 + 1))), .int (xs (Int32.toNatClampNeg (x3 + 2)))]) zc6 rfl dL_law_675 lk_L_78 rfl (by decide) (by decide) (by decide) rfl rfl h (fun r129 f129 h => ?_)
      refine z_aload_n (pc := 678) dL_law_678 rfl ?_
      refine z_aload_n (pc := 679) dL_law_679 rfl ?_
      refine z_iload_n (pc := 680) dL_law_680 rfl ?_
      refine z_iconst (pc := 681) (v := 1) dL_law_681 ic_1 ?_
      refine z_iadd (pc := 682) dL_law_682 ?_
      refine z_sld (pc := 683) hX dL_law_683 hv.2.1 ?_
      refine z_aload_n (pc := 684) dL_law_684 rfl ?_
      refine z_iload_n (pc := 685) dL_law_685 rfl ?_
      refine z_iconst (pc := 686) (v := 2) dL_law_686 ic_2 ?_
      refine z_iadd (pc := 687) dL_law_687 ?_
      refine z_sld (pc := 688) hX dL_law_688 hv.2.2.1 ?_
      refine k_cVi (pc := 689) (av := [.int (xs (Int32.toNatClampNeg (x3 + 1))), .int (xs (Int32.toNatClampNeg (x3 + 2)))]) zc7 rfl dL_law_689 lk_L_81 rfl (by decide) (by decide) (by decide) rfl rfl h (fun r130 f130 h => ?_)
      refine z_icmp_eq (pc := 692) (t := 1115) dL_law_692 (by decide) (fun c_692 => ?_) (fun c_692 => ?_)
      · replace h := h.1 c_692
        refine z_iinc (pc := 1115) (v := (x3 + 6)) (lv' := [(3, .int (x3 + 6)), (0, .ref 1200), (1, .ref 0), (2, .ref 52)]) dL_law_1115 rfl (congrArg (fun z => x3 + z) ic_6) (Nat.le_of_ble_eq_true rfl) rfl ?_
        refine z_goto (pc := 1118) (t := 18) dL_law_1118 (by decide) ?_
        exact z_sub [1, 2, 3, 0] rfl h
      · replace h := h.2 c_692
        refine z_iconst (pc := 695) (v := 0) dL_law_695 ic_0 ?_
        exact h.elim
    · replace h := h.2.2.2.2.2.2.2.2.2.2.2.2.2.2.2.1 c_33_15
      refine z_aload_n (pc := 697) dL_law_697 rfl ?_
      refine z_aload_n (pc := 698) dL_law_698 rfl ?_
      refine z_iload_n (pc := 699) dL_law_699 rfl ?_
      refine z_iconst (pc := 700) (v := 1) dL_law_700 ic_1 ?_
      refine z_iadd (pc := 701) dL_law_701 ?_
      refine z_sld (pc := 702) hX dL_law_702 hv.2.1 ?_
      refine z_aload_n (pc := 703) dL_law_703 rfl ?_
      refine z_iload_n (pc := 704) dL_law_704 rfl ?_
      refine z_iconst (pc := 705) (v := 2) dL_law_705 ic_2 ?_
      refine z_iadd (pc := 706) dL_law_706 ?_
      refine z_sld (pc := 707) hX dL_law_707 hv.2.2.1 ?_
      refine k_cVi (pc := 708) (av := [.int (xs (Int32.toNatClampNeg (x3 + 1))), .int (xs (Int32.toNatClampNeg (x3 + 2)))]) zc6 rfl dL_law_708 lk_L_82 rfl (by decide) (by decide) (by decide) rfl rfl h (fun r131 f131 h => ?_)
      refine z_aload_n (pc := 711) dL_law_711 rfl ?_
      refine z_aload_n (pc := 712) dL_law_712 rfl ?_
      refine z_iload_n (pc := 713) dL_law_713 rfl ?_
      refine z_iconst (pc := 714) (v := 1) dL_law_714 ic_1 ?_
      refine z_iadd (pc := 715) dL_law_715 ?_
      refine z_sld (pc := 716) hX dL_law_716 hv.2.1 ?_
      refine z_aload_n (pc := 717) dL_law_717 rfl ?_
      refine z_iload_n (pc := 718) dL_law_718 rfl ?_
      refine z_iconst (pc := 719) (v := 2) dL_law_719 ic_2 ?_
      refine z_iadd (pc := 720) dL_law_720 ?_
      refine z_sld (pc := 721) hX dL_law_721 hv.2.2.1 ?_
      refine k_cVi (pc := 722) (av := [.int (xs (Int32.toNatClampNeg (x3 + 1))), .int (xs (Int32.toNatClampNeg (x3 + 2)))]) zc7 rfl dL_law_722 lk_L_85 rfl (by decide) (by decide) (by decide) rfl rfl h (fun r132 f132 h => ?_)
      refine z_icmp_eq (pc := 725) (t := 1115) dL_law_725 (by decide) (fun c_725 => ?_) (fun c_725 => ?_)
      · replace h := h.1 c_725
        refine z_iinc (pc := 1115) (v := (x3 + 6)) (lv' := [(3, .int (x3 + 6)), (0, .ref 1200), (1, .ref 0), (2, .ref 52)]) dL_law_1115 rfl (congrArg (fun z => x3 + z) ic_6) (Nat.le_of_ble_eq_true rfl) rfl ?_
        refine z_goto (pc := 1118) (t := 18) dL_law_1118 (by decide) ?_
        exact z_sub [1, 2, 3, 0] rfl h
      · replace h := h.2 c_725
        refine z_iconst (pc := 728) (v := 0) dL_law_728 ic_0 ?_
        exact h.elim
    · replace h := h.2.2.2.2.2.2.2.2.2.2.2.2.2.2.2.2.1 c_33_16
      refine z_aload_n (pc := 730) dL_law_730 rfl ?_
      refine z_aload_n (pc := 731) dL_law_731 rfl ?_
      refine z_iload_n (pc := 732) dL_law_732 rfl ?_
      refine z_iconst (pc := 733) (v := 1) dL_law_733 ic_1 ?_
      refine z_iadd (pc := 734) dL_law_734 ?_
      refine z_sld (pc := 735) hX dL_law_735 hv.2.1 ?_
      refine k_cVi (pc := 736) (av := [.int (xs (Int32.toNatClampNeg (x3 + 1)))]) zc6 rfl dL_law_736 lk_L_86 rfl (by decide) (by decide) (by decide) rfl rfl h (fun r133 f133 h => ?_)
      refine z_aload_n (pc := 739) dL_law_739 rfl ?_
      refine z_aload_n (pc := 740) dL_law_740 rfl ?_
      refine z_iload_n (pc := 741) dL_law_741 rfl ?_
      refine z_iconst (pc := 742) (v := 1) dL_law_742 ic_1 ?_
      refine z_iadd (pc := 743) dL_law_743 ?_
      refine z_sld (pc := 744) hX dL_law_744 hv.2.1 ?_
      refine k_cVi (pc := 745) (av := [.int (xs (Int32.toNatClampNeg (x3 + 1)))]) zc7 rfl dL_law_745 lk_L_89 rfl (by decide) (by decide) (by decide) rfl rfl h (fun r134 f134 h => ?_)
      refine z_icmp_eq (pc := 748) (t := 1115) dL_law_748 (by decide) (fun c_748 => ?_) (fun c_748 => ?_)
      · replace h := h.1 c_748
        refine z_iinc (pc := 1115) (v := (x3 + 6)) (lv' := [(3, .int (x3 + 6)), (0, .ref 1200), (1, .ref 0), (2, .ref 52)]) dL_law_1115 rfl (congrArg (fun z => x3 + z) ic_6) (Nat.le_of_ble_eq_true rfl) rfl ?_
        refine z_goto (pc := 1118) (t := 18) dL_law_1118 (by decide) ?_
        exact z_sub [1, 2, 3, 0] rfl h
      · replace h := h.2 c_748
        refine z_iconst (pc := 751) (v := 0) dL_law_751 ic_0 ?_
        exact h.elim
    · replace h := h.2.2.2.2.2.2.2.2.2.2.2.2.2.2.2.2.2.1 c_33_17
      refine z_aload_n (pc := 753) dL_law_753 rfl ?_
      refine z_aload_n (pc := 754) dL_law_754 rfl ?_
      refine z_iload_n (pc := 755) dL_law_755 rfl ?_
      refine z_iconst (pc := 756) (v := 1) dL_law_756 ic_1 ?_
      refine z_iadd (pc := 757) dL_law_757 ?_
      refine z_sld (pc := 758) hX dL_law_758 hv.2.1 ?_
      refine k_cVi (pc := 759) (av := [.int (xs (Int32.toNatClampNeg (x3 + 1)))]) zc6 rfl dL_law_759 lk_L_90 rfl (by decide) (by decide) (by decide) rfl rfl h (fun r135 f135 h => ?_)
      refine z_aload_n (pc := 762) dL_law_762 rfl ?_
      refine z_aload_n (pc := 763) dL_law_763 rfl ?_
      refine z_iload_n (pc := 764) dL_law_764 rfl ?_
      refine z_iconst (pc := 765) (v := 1) dL_law_765 ic_1 ?_
      refine z_iadd (pc := 766) dL_law_766 ?_
      refine z_sld (pc := 767) hX dL_law_767 hv.2.1 ?_
      refine k_cVi (pc := 768) (av := [.int (xs (Int32.toNatClampNeg (x3 + 1)))]) zc7 rfl dL_law_768 lk_L_93 rfl (by decide) (by decide) (by decide) rfl rfl h (fun r136 f136 h => ?_)
      refine z_icmp_eq (pc := 771) (t := 1115) dL_law_771 (by decide) (fun c_771 => ?_) (fun c_771 => ?_)
      · replace h := h.1 c_771
        refine z_iinc (pc := 1115) (v := (x3 + 6)) (lv' := [(3, .int (x3 + 6)), (0, .ref 1200), (1, .ref 0), (2, .ref 52)]) dL_law_1115 rfl (congrArg (fun z => x3 + z) ic_6) (Nat.le_of_ble_eq_true rfl) rfl ?_
        refine z_goto (pc := 1118) (t := 18) dL_law_1118 (by decide) ?_
        exact z_sub [1, 2, 3, 0] rfl h
      · replace h := h.2 c_771
        refine z_iconst (pc := 774) (v := 0) dL_law_774 ic_0 ?_
        exact h.elim
    · replace h := h.2.2.2.2.2.2.2.2.2.2.2.2.2.2.2.2.2.2.1 c_33_18
      refine z_aload_n (pc := 776) dL_law_776 rfl ?_
      refine z_aload_n (pc := 777) dL_law_777 rfl ?_
      refine z_iload_n (pc := 778) dL_law_778 rfl ?_
      refine z_iconst (pc := 779) (v := 1) dL_law_779 ic_1 ?_
      refine z_iadd (pc := 780) dL_law_780 ?_
      refine z_sld (pc := 781) hX dL_law_781 hv.2.1 ?_
      refine z_aload_n (pc := 782) dL_law_782 rfl ?_
      refine z_iload_n (pc := 783) dL_law_783 rfl ?_
      refine z_iconst (pc := 784) (v := 2) dL_law_784 ic_2 ?_
      refine z_iadd (pc := 785) dL_law_785 ?_
      refine z_sld (pc := 786) hX dL_law_786 hv.2.2.1 ?_
      refine k_cVi (pc := 787) (av := [.int (xs (Int32.toNatClampNeg (x3 + 1))), .int (xs (Int32.toNatClampNeg (x3 + 2)))]) zc6 rfl dL_law_787 lk_L_94 rfl (by decide) (by decide) (by decide) rfl rfl h (fun r137 f137 h => ?_)
      refine z_aload_n (pc := 790) dL_law_790 rfl ?_
      refine z_aload_n (pc := 791) dL_law_791 rfl ?_
      refine z_iload_n (pc := 792) dL_law_792 rfl ?_
      refine z_iconst (pc := 793) (v := 1) dL_law_793 ic_1 ?_
      refine z_iadd (pc := 794) dL_law_794 ?_
      refine z_sld (pc := 795) hX dL_law_795 hv.2.1 ?_
      refine z_aload_n (pc := 796) dL_law_796 rfl ?_
      refine z_iload_n (pc := 797) dL_law_797 rfl ?_
      refine z_iconst (pc := 798) (v := 2) dL_law_798 ic_2 ?_
      refine z_iadd (pc := 799) dL_law_799 ?_
      refine z_sld (pc := 800) hX dL_law_800 hv.2.2.1 ?_
      refine k_cVi (pc := 801) (av := [.int (xs (Int32.toNatClampNeg (x3 + 1))), .int (xs (Int32.toNatClampNeg (x3 + 2)))]) zc7 rfl dL_law_801 lk_L_97 rfl (by decide) (by decide) (by decide) rfl rfl h (fun r138 f138 h => ?_)
      refine z_icmp_eq (pc := 804) (t := 1115) dL_law_804 (by decide) (fun c_804 => ?_) (fun c_804 => ?_)
      · replace h := h.1 c_804
        refine z_iinc (pc := 1115) (v := (x3 + 6)) (lv' := [(3, .int (x3 + 6)), (0, .ref 1200), (1, .ref 0), (2, .ref 52)]) dL_law_1115 rfl (congrArg (fun z => x3 + z) ic_6) (Nat.le_of_ble_eq_true rfl) rfl ?_
        refine z_goto (pc := 1118) (t := 18) dL_law_1118 (by decide) ?_
        exact z_sub [1, 2, 3, 0] rfl h
      · replace h := h.2 c_804
        refine z_iconst (pc := 807) (v := 0) dL_law_807 ic_0 ?_
        exact h.elim
    · replace h := h.2.2.2.2.2.2.2.2.2.2.2.2.2.2.2.2.2.2.2.1 c_33_19
      refine z_aload_n (pc := 809) dL_law_809 rfl ?_
      refine z_aload_n (pc := 810) dL_law_810 rfl ?_
      refine z_iload_n (pc := 811) dL_law_811 rfl ?_
      refine z_iconst (pc := 812) (v := 1) dL_law_812 ic_1 ?_
      refine z_iadd (pc := 813) dL_law_813 ?_
      refine z_sld (pc := 814) hX dL_law_814 hv.2.1 ?_
      refine k_cVi (pc := 815) (av := [.int (xs (Int32.toNatClampNeg (x3 + 1)))]) zc6 rfl dL_law_815 lk_L_98 rfl (by decide) (by decide) (by decide) rfl rfl h (fun r139 f139 h => ?_)
      refine z_aload_n (pc := 818) dL_law_818 rfl ?_
      refine z_aload_n (pc := 819) dL_law_819 rfl ?_
      refine z_iload_n (pc := 820) dL_law_820 rfl ?_
      refine z_iconst (pc := 821) (v := 1) dL_law_821 ic_1 ?_
      refine z_iadd (pc := 822) dL_law_822 ?_
      refine z_sld (pc := 823) hX dL_law_823 hv.2.1 ?_
      refine k_cVi (pc := 824) (av := [.int (xs (Int32.toNatClampNeg (x3 + 1)))]) zc7 rfl dL_law_824 lk_L_101 rfl (by decide) (by decide) (by decide) rfl rfl h (fun r140 f140 h => ?_)
      refine z_icmp_eq (pc := 827) (t := 1115) dL_law_827 (by decide) (fun c_827 => ?_) (fun c_827 => ?_)
      · replace h := h.1 c_827
        refine z_iinc (pc := 1115) (v := (x3 + 6)) (lv' := [(3, .int (x3 + 6)), (0, .ref 1200), (1, .ref 0), (2, .ref 52)]) dL_law_1115 rfl (congrArg (fun z => x3 + z) ic_6) (Nat.le_of_ble_eq_true rfl) rfl ?_
        refine z_goto (pc := 1118) (t := 18) dL_law_1118 (by decide) ?_
        exact z_sub [1, 2, 3, 0] rfl h
      · replace h := h.2 c_827
        refine z_iconst (pc := 830) (v := 0) dL_law_830 ic_0 ?_
        exact h.elim
    · replace h := h.2.2.2.2.2.2.2.2.2.2.2.2.2.2.2.2.2.2.2.2.1 c_33_20
      refine z_aload_n (pc := 832) dL_law_832 rfl ?_
      refine z_aload_n (pc := 833) dL_law_833 rfl ?_
      refine z_iload_n (pc := 834) dL_law_834 rfl ?_
      refine z_iconst (pc := 835) (v := 1) dL_law_835 ic_1 ?_
      refine z_iadd (pc := 836) dL_law_836 ?_
      refine z_sld (pc := 837) hX dL_law_837 hv.2.1 ?_
      refine k_cVi (pc := 838) (av := [.int (xs (Int32.toNatClampNeg (x3 + 1)))]) zc6 rfl dL_law_838 lk_L_102 rfl (by decide) (by decide) (by decide) rfl rfl h (fun r141 f141 h => ?_)
      refine z_aload_n (pc := 841) dL_law_841 rfl ?_
      refine z_aload_n (pc := 842) dL_law_842 rfl ?_
      refine z_iload_n (pc := 843) dL_law_843 rfl ?_
      refine z_iconst (pc := 844) (v := 1) dL_law_844 ic_1 ?_
      refine z_iadd (pc := 845) dL_law_845 ?_
      refine z_sld (pc := 846) hX dL_law_846 hv.2.1 ?_
      refine k_cVi (pc := 847) (av := [.int (xs (Int32.toNatClampNeg (x3 + 1)))]) zc7 rfl dL_law_847 lk_L_105 rfl (by decide) (by decide) (by decide) rfl rfl h (fun r142 f142 h => ?_)
      refine z_icmp_eq (pc := 850) (t := 1115) dL_law_850 (by decide) (fun c_850 => ?_) (fun c_850 => ?_)
      · replace h := h.1 c_850
        refine z_iinc (pc := 1115) (v := (x3 + 6)) (lv' := [(3, .int (x3 + 6)), (0, .ref 1200), (1, .ref 0), (2, .ref 52)]) dL_law_1115 rfl (congrArg (fun z => x3 + z) ic_6) (Nat.le_of_ble_eq_true rfl) rfl ?_
        refine z_goto (pc := 1118) (t := 18) dL_law_1118 (by decide) ?_
        exact z_sub [1, 2, 3, 0] rfl h
      · replace h := h.2 c_850
        refine z_iconst (pc := 853) (v := 0) dL_law_853 ic_0 ?_
        exact h.elim
    · replace h := h.2.2.2.2.2.2.2.2.2.2.2.2.2.2.2.2.2.2.2.2.2.1 c_33_21
      refine z_aload_n (pc := 855) dL_law_855 rfl ?_
      refine z_aload_n (pc := 856) dL_law_856 rfl ?_
      refine z_iload_n (pc := 857) dL_law_857 rfl ?_
      refine z_iconst (pc := 858) (v := 1) dL_law_858 ic_1 ?_
      refine z_iadd (pc := 859) dL_law_859 ?_
      refine z_sld (pc := 860) hX dL_law_860 hv.2.1 ?_
      refine k_cVi (pc := 861) (av := [.int (xs (Int32.toNatClampNeg (x3 + 1)))]) zc6 rfl dL_law_861 lk_L_106 rfl (by decide) (by decide) (by decide) rfl rfl h (fun r143 f143 h => ?_)
      refine z_aload_n (pc := 864) dL_law_864 rfl ?_
      refine z_aload_n (pc := 865) dL_law_865 rfl ?_
      refine z_iload_n (pc := 866) dL_law_866 rfl ?_
      refine z_iconst (pc := 867) (v := 1) dL_law_867 ic_1 ?_
      refine z_iadd (pc := 868) dL_law_868 ?_
      refine z_sld (pc := 869) hX dL_law_869 hv.2.1 ?_
      refine k_cVi (pc := 870) (av := [.int (xs (Int32.toNatClampNeg (x3 + 1)))]) zc7 rfl dL_law_870 lk_L_109 rfl (by decide) (by decide) (by decide) rfl rfl h (fun r144 f144 h => ?_)
      refine z_icmp_eq (pc := 873) (t := 1115) dL_law_873 (by decide) (fun c_873 => ?_) (fun c_873 => ?_)
      · replace h := h.1 c_873
        refine z_iinc (pc := 1115) (v := (x3 + 6)) (lv' := [(3, .int (x3 + 6)), (0, .ref 1200), (1, .ref 0), (2, .ref 52)]) dL_law_1115 rfl (congrArg (fun z => x3 + z) ic_6) (Nat.le_of_ble_eq_true rfl) rfl ?_
        refine z_goto (pc := 1118) (t := 18) dL_law_1118 (by decide) ?_
        exact z_sub [1, 2, 3, 0] rfl h
      · replace h := h.2 c_873
        refine z_iconst (pc := 876) (v := 0) dL_law_876 ic_0 ?_
        exact h.elim
    · replace h := h.2.2.2.2.2.2.2.2.2.2.2.2.2.2.2.2.2.2.2.2.2.2.1 c_33_22
      refine z_aload_n (pc := 878) dL_law_878 rfl ?_
      refine z_aload_n (pc := 879) dL_law_879 rfl ?_
      refine z_iload_n (pc := 880) dL_law_880 rfl ?_
      refine z_iconst (pc := 881) (v := 1) dL_law_881 ic_1 ?_
      refine z_iadd (pc := 882) dL_law_882 ?_
      refine z_sld (pc := 883) hX dL_law_883 hv.2.1 ?_
      refine z_aload_n (pc := 884) dL_law_884 rfl ?_
      refine z_iload_n (pc := 885) dL_law_885 rfl ?_
      refine z_iconst (pc := 886) (v := 2) dL_law_886 ic_2 ?_
      refine z_iadd (pc := 887) dL_law_887 ?_
      refine z_sld (pc := 888) hX dL_law_888 hv.2.2.1 ?_
      refine z_aload_n (pc := 889) dL_law_889 rfl ?_
      refine z_iload_n (pc := 890) dL_law_890 rfl ?_
      refine z_iconst (pc := 891) (v := 3) dL_law_891 ic_3 ?_
      refine z_iadd (pc := 892) dL_law_892 ?_
      refine z_sld (pc := 893) hX dL_law_893 hv.2.2.2.1 ?_
      refine k_cVi (pc := 894) (av := [.int (xs (Int32.toNatClampNeg (x3 + 1))), .int (xs (Int32.toNatClampNeg (x3 + 2))), .int (xs (Int32.toNatClampNeg (x3 + 3)))]) zc6 rfl dL_law_894 lk_L_110 rfl (by decide) (by decide) (by decide) rfl rfl h (fun r145 f145 h => ?_)
      refine z_aload_n (pc := 897) dL_law_897 rfl ?_
      refine z_aload_n (pc := 898) dL_law_898 rfl ?_
      refine z_iload_n (pc := 899) dL_law_899 rfl ?_
      refine z_iconst (pc := 900) (v := 1) dL_law_900 ic_1 ?_
      refine z_iadd (pc := 901) dL_law_901 ?_
      refine z_sld (pc := 902) hX dL_law_902 hv.2.1 ?_
      refine z_aload_n (pc := 903) dL_law_903 rfl ?_
      refine z_iload_n (pc := 904) dL_law_904 rfl ?_
      refine z_iconst (pc := 905) (v := 2) dL_law_905 ic_2 ?_
      refine z_iadd (pc := 906) dL_law_906 ?_
      refine z_sld (pc := 907) hX dL_law_907 hv.2.2.1 ?_
      refine z_aload_n (pc := 908) dL_law_908 rfl ?_
      refine z_iload_n (pc := 909) dL_law_909 rfl ?_
      refine z_iconst (pc := 910) (v := 3) dL_law_910 ic_3 ?_
      refine z_iadd (pc := 911) dL_law_911 ?_
      refine z_sld (pc := 912) hX dL_law_912 hv.2.2.2.1 ?_
      refine k_cVi (pc := 913) (av := [.int (xs (Int32.toNatClampNeg (x3 + 1))), .int (xs (Int32.toNatClampNeg (x3 + 2))), .int (xs (Int32.toNatClampNeg (x3 + 3)))]) zc7 rfl dL_law_913 lk_L_113 rfl (by decide) (by decide) (by decide) rfl rfl h (fun r146 f146 h => ?_)
      refine z_icmp_eq (pc := 916) (t := 1115) dL_law_916 (by decide) (fun c_916 => ?_) (fun c_916 => ?_)
      · replace h := h.1 c_916
        refine z_iinc (pc := 1115) (v := (x3 + 6)) (lv' := [(3, .int (x3 + 6)), (0, .ref 1200), (1, .ref 0), (2, .ref 52)]) dL_law_1115 rfl (congrArg (fun z => x3 + z) ic_6) (Nat.le_of_ble_eq_true rfl) rfl ?_
        refine z_goto (pc := 1118) (t := 18) dL_law_1118 (by decide) ?_
        exact z_sub [1, 2, 3, 0] rfl h
      · replace h := h.2 c_916
        refine z_iconst (pc := 919) (v := 0) dL_law_919 ic_0 ?_
        exact h.elim
    · replace h := h.2.2.2.2.2.2.2.2.2.2.2.2.2.2.2.2.2.2.2.2.2.2.2.1 c_33_23
      refine z_aload_n (pc := 921) dL_law_921 rfl ?_
      refine z_aload_n (pc := 922) dL_law_922 rfl ?_
      refine z_iload_n (pc := 923) dL_law_923 rfl ?_
      refine z_iconst (pc := 924) (v := 1) dL_law_924 ic_1 ?_
      refine z_iadd (pc := 925) dL_law_925 ?_
      refine z_sld (pc := 926) hX dL_law_926 hv.2.1 ?_
      refine k_cVi (pc := 927) (av := [.int (xs (Int32.toNatClampNeg (x3 + 1)))]) zc6 rfl dL_law_927 lk_L_114 rfl (by decide) (by decide) (by decide) rfl rfl h (fun r147 f147 h => ?_)
      refine z_aload_n (pc := 930) dL_law_930 rfl ?_
      refine z_aload_n (pc := 931) dL_law_931 rfl ?_
      refine z_iload_n (pc := 932) dL_law_932 rfl ?_
      refine z_iconst (pc := 933) (v := 1) dL_law_933 ic_1 ?_
      refine z_iadd (pc := 934) dL_law_934 ?_
      refine z_sld (pc := 935) hX dL_law_935 hv.2.1 ?_
      refine k_cVi (pc := 936) (av := [.int (xs (Int32.toNatClampNeg (x3 + 1)))]) zc7 rfl dL_law_936 lk_L_117 rfl (by decide) (by decide) (by decide) rfl rfl h (fun r148 f148 h => ?_)
      refine z_icmp_eq (pc := 939) (t := 1115) dL_law_939 (by decide) (fun c_939 => ?_) (fun c_939 => ?_)
      · replace h := h.1 c_939
        refine z_iinc (pc := 1115) (v := (x3 + 6)) (lv' := [(3, .int (x3 + 6)), (0, .ref 1200), (1, .ref 0), (2, .ref 52)]) dL_law_1115 rfl (congrArg (fun z => x3 + z) ic_6) (Nat.le_of_ble_eq_true rfl) rfl ?_
        refine z_goto (pc := 1118) (t := 18) dL_law_1118 (by decide) ?_
        exact z_sub [1, 2, 3, 0] rfl h
      · replace h := h.2 c_939
        refine z_iconst (pc := 942) (v := 0) dL_law_942 ic_0 ?_
        exact h.elim
    · replace h := h.2.2.2.2.2.2.2.2.2.2.2.2.2.2.2.2.2.2.2.2.2.2.2.2.1 c_33_24
      refine z_aload_n (pc := 944) dL_law_944 rfl ?_
      refine z_aload_n (pc := 945) dL_law_945 rfl ?_
      refine z_iload_n (pc := 946) dL_law_946 rfl ?_
      refine z_iconst (pc := 947) (v := 1) dL_law_947 ic_1 ?_
      refine z_iadd (pc := 948) dL_law_948 ?_
      refine z_sld (pc := 949) hX dL_law_949 hv.2.1 ?_
      refine k_cVi (pc := 950) (av := [.int (xs (Int32.toNatClampNeg (x3 + 1)))]) zc6 rfl dL_law_950 lk_L_118 rfl (by decide) (by decide) (by decide) rfl rfl h (fun r149 f149 h => ?_)
      refine z_aload_n (pc := 953) dL_law_953 rfl ?_
      refine z_aload_n (pc := 954) dL_law_954 rfl ?_
      refine z_iload_n (pc := 955) dL_law_955 rfl ?_
      refine z_iconst (pc := 956) (v := 1) dL_law_956 ic_1 ?_
      refine z_iadd (pc := 957) dL_law_957 ?_
      refine z_sld (pc := 958) hX dL_law_958 hv.2.1 ?_
      refine k_cVi (pc := 959) (av := [.int (xs (Int32.toNatClampNeg (x3 + 1)))]) zc7 rfl dL_law_959 lk_L_121 rfl (by decide) (by decide) (by decide) rfl rfl h (fun r150 f150 h => ?_)
      refine z_icmp_eq (pc := 962) (t := 1115) dL_law_962 (by decide) (fun c_962 => ?_) (fun c_962 => ?_)
      · replace h := h.1 c_962
        refine z_iinc (pc := 1115) (v := (x3 + 6)) (lv' := [(3, .int (x3 + 6)), (0, .ref 1200), (1, .ref 0), (2, .ref 52)]) dL_law_1115 rfl (congrArg (fun z => x3 + z) ic_6) (Nat.le_of_ble_eq_true rfl) rfl ?_
        refine z_goto (pc := 1118) (t := 18) dL_law_1118 (by decide) ?_
        exact z_sub [1, 2, 3, 0] rfl h
      · replace h := h.2 c_962
        refine z_iconst (pc := 965) (v := 0) dL_law_965 ic_0 ?_
        exact h.elim
    · replace h := h.2.2.2.2.2.2.2.2.2.2.2.2.2.2.2.2.2.2.2.2.2.2.2.2.2.1 c_33_25
      refine z_aload_n (pc := 967) dL_law_967 rfl ?_
      refine z_aload_n (pc := 968) dL_law_968 rfl ?_
      refine z_iload_n (pc := 969) dL_law_969 rfl ?_
      refine z_iconst (pc := 970) (v := 1) dL_law_970 ic_1 ?_
      refine z_iadd (pc := 971) dL_law_971 ?_
      refine z_sld (pc := 972) hX dL_law_972 hv.2.1 ?_
      refine k_cVi (pc := 973) (av := [.int (xs (Int32.toNatClampNeg (x3 + 1)))]) zc6 rfl dL_law_973 lk_L_122 rfl (by decide) (by decide) (by decide) rfl rfl h (fun r151 f151 h => ?_)
      refine z_aload_n (pc := 976) dL_law_976 rfl ?_
      refine z_aload_n (pc := 977) dL_law_977 rfl ?_
      refine z_iload_n (pc := 978) dL_law_978 rfl ?_
      refine z_iconst (pc := 979) (v := 1) dL_law_979 ic_1 ?_
      refine z_iadd (pc := 980) dL_law_980 ?_
      refine z_sld (pc := 981) hX dL_law_981 hv.2.1 ?_
      refine k_cVi (pc := 982) (av := [.int (xs (Int32.toNatClampNeg (x3 + 1)))]) zc7 rfl dL_law_982 lk_L_125 rfl (by decide) (by decide) (by decide) rfl rfl h (fun r152 f152 h => ?_)
      refine z_icmp_eq (pc := 985) (t := 1115) dL_law_985 (by decide) (fun c_985 => ?_) (fun c_985 => ?_)
      · replace h := h.1 c_985
        refine z_iinc (pc := 1115) (v := (x3 + 6)) (lv' := [(3, .int (x3 + 6)), (0, .ref 1200), (1, .ref 0), (2, .ref 52)]) dL_law_1115 rfl (congrArg (fun z => x3 + z) ic_6) (Nat.le_of_ble_eq_true rfl) rfl ?_
        refine z_goto (pc := 1118) (t := 18) dL_law_1118 (by decide) ?_
        exact z_sub [1, 2, 3, 0] rfl h
      · replace h := h.2 c_985
        refine z_iconst (pc := 988) (v := 0) dL_law_988 ic_0 ?_
        exact h.elim
    · replace h := h.2.2.2.2.2.2.2.2.2.2.2.2.2.2.2.2.2.2.2.2.2.2.2.2.2.2.1 c_33_26
      refine z_aload_n (pc := 990) dL_law_990 rfl ?_
      refine z_aload_n (pc := 991) dL_law_991 rfl ?_
      refine z_iload_n (pc := 992) dL_law_992 rfl ?_
      refine z_iconst (pc := 993) (v := 1) dL_law_993 ic_1 ?_
      refine z_iadd (pc := 994) dL_law_994 ?_
      refine z_sld (pc := 995) hX dL_law_995 hv.2.1 ?_
      refine z_aload_n (pc := 996) dL_law_996 rfl ?_
      refine z_iload_n (pc := 997) dL_law_997 rfl ?_
      refine z_iconst (pc := 998) (v := 2) dL_law_998 ic_2 ?_
      refine z_iadd (pc := 999) dL_law_999 ?_
      refine z_sld (pc := 1000) hX dL_law_1000 hv.2.2.1 ?_
      refine k_cVi (pc := 1001) (av := [.int (xs (Int32.toNatClampNeg (x3 + 1))), .int (xs (Int32.toNatClampNeg (x3 + 2)))]) zc6 rfl dL_law_1001 lk_L_126 rfl (by decide) (by decide) (by decide) rfl rfl h (fun r153 f153 h => ?_)
      refine z_aload_n (pc := 1004) dL_law_1004 rfl ?_
      refine z_aload_n (pc := 1005) dL_law_1005 rfl ?_
      refine z_iload_n (pc := 1006) dL_law_1006 rfl ?_
      refine z_iconst (pc := 1007) (v := 1) dL_law_1007 ic_1 ?_
      refine z_iadd (pc := 1008) dL_law_1008 ?_
      refine z_sld (pc := 1009) hX dL_law_1009 hv.2.1 ?_
      refine z_aload_n (pc := 1010) dL_law_1010 rfl ?_
      refine z_iload_n (pc := 1011) dL_law_1011 rfl ?_
      refine z_iconst (pc := 1012) (v := 2) dL_law_1012 ic_2 ?_
      refine z_iadd (pc := 1013) dL_law_1013 ?_
      refine z_sld (pc := 1014) hX dL_law_1014 hv.2.2.1 ?_
      refine k_cVi (pc := 1015) (av := [.int (xs (Int32.toNatClampNeg (x3 + 1))), .int (xs (Int32.toNatClampNeg (x3 + 2)))]) zc7 rfl dL_law_1015 lk_L_129 rfl (by decide) (by decide) (by decide) rfl rfl h (fun r154 f154 h => ?_)
      refine z_icmp_eq (pc := 1018) (t := 1115) dL_law_1018 (by decide) (fun c_1018 => ?_) (fun c_1018 => ?_)
      · replace h := h.1 c_1018
        refine z_iinc (pc := 1115) (v := (x3 + 6)) (lv' := [(3, .int (x3 + 6)), (0, .ref 1200), (1, .ref 0), (2, .ref 52)]) dL_law_1115 rfl (congrArg (fun z => x3 + z) ic_6) (Nat.le_of_ble_eq_true rfl) rfl ?_
        refine z_goto (pc := 1118) (t := 18) dL_law_1118 (by decide) ?_
        exact z_sub [1, 2, 3, 0] rfl h
      · replace h := h.2 c_1018
        refine z_iconst (pc := 1021) (v := 0) dL_law_1021 ic_0 ?_
        exact h.elim
    · replace h := h.2.2.2.2.2.2.2.2.2.2.2.2.2.2.2.2.2.2.2.2.2.2.2.2.2.2.2.1 c_33_27
      refine z_aload_n (pc := 1023) dL_law_1023 rfl ?_
      refine z_aload_n (pc := 1024) dL_law_1024 rfl ?_
      refine z_iload_n (pc := 1025) dL_law_1025 rfl ?_
      refine z_iconst (pc := 1026) (v := 1) dL_law_1026 ic_1 ?_
      refine z_iadd (pc := 1027) dL_law_1027 ?_
      refine z_sld (pc := 1028) hX dL_law_1028 hv.2.1 ?_
      refine z_aload_n (pc := 1029) dL_law_1029 rfl ?_
      refine z_iload_n (pc := 1030) dL_law_1030 rfl ?_
      refine z_iconst (pc := 1031) (v := 2) dL_law_1031 ic_2 ?_
      refine z_iadd (pc := 1032) dL_law_1032 ?_
      refine z_sld (pc := 1033) hX dL_law_1033 hv.2.2.1 ?_
      refine k_cVi (pc := 1034) (av := [.int (xs (Int32.toNatClampNeg (x3 + 1))), .int (xs (Int32.toNatClampNeg (x3 + 2)))]) zc6 rfl dL_law_1034 lk_L_130 rfl (by decide) (by decide) (by decide) rfl rfl h (fun r155 f155 h => ?_)
      refine z_aload_n (pc := 1037) dL_law_1037 rfl ?_
      refine z_aload_n (pc := 1038) dL_law_1038 rfl ?_
      refine z_iload_n (pc := 1039) dL_law_1039 rfl ?_
      refine z_iconst (pc := 1040) (v := 1) dL_law_1040 ic_1 ?_
      refine z_iadd (pc := 1041) dL_law_1041 ?_
      refine z_sld (pc := 1042) hX dL_law_1042 hv.2.1 ?_
      refine z_aload_n (pc := 1043) dL_law_1043 rfl ?_
      refine z_iload_n (pc := 1044) dL_law_1044 rfl ?_
      refine z_iconst (pc := 1045) (v := 2) dL_law_1045 ic_2 ?_
      refine z_iadd (pc := 1046) dL_law_1046 ?_
      refine z_sld (pc := 1047) hX dL_law_1047 hv.2.2.1 ?_
      refine k_cVi (pc := 1048) (av := [.int (xs (Int32.toNatClampNeg (x3 + 1))), .int (xs (Int32.toNatClampNeg (x3 + 2)))]) zc7 rfl dL_law_1048 lk_L_133 rfl (by decide) (by decide) (by decide) rfl rfl h (fun r156 f156 h => ?_)
      refine z_icmp_eq (pc := 1051) (t := 1115) dL_law_1051 (by decide) (fun c_1051 => ?_) (fun c_1051 => ?_)
      · replace h := h.1 c_1051
        refine z_iinc (pc := 1115) (v := (x3 + 6)) (lv' := [(3, .int (x3 + 6)), (0, .ref 1200), (1, .ref 0), (2, .ref 52)]) dL_law_1115 rfl (congrArg (fun z => x3 + z) ic_6) (Nat.le_of_ble_eq_true rfl) rfl ?_
        refine z_goto (pc := 1118) (t := 18) dL_law_1118 (by decide) ?_
        exact z_sub [1, 2, 3, 0] rfl h
      · replace h := h.2 c_1051
        refine z_iconst (pc := 1054) (v := 0) dL_law_1054 ic_0 ?_
        exact h.elim
    · replace h := h.2.2.2.2.2.2.2.2.2.2.2.2.2.2.2.2.2.2.2.2.2.2.2.2.2.2.2.2.1 c_33_28
      refine z_aload_n (pc := 1056) dL_law_1056 rfl ?_
      refine z_aload_n (pc := 1057) dL_law_1057 rfl ?_
      refine z_iload_n (pc := 1058) dL_law_1058 rfl ?_
      refine z_iconst (pc := 1059) (v := 1) dL_law_1059 ic_1 ?_
      refine z_iadd (pc := 1060) dL_law_1060 ?_
      refine z_sld (pc := 1061) hX dL_law_1061 hv.2.1 ?_
      refine k_cVi (pc := 1062) (av := [.int (xs (Int32.toNatClampNeg (x3 + 1)))]) zc6 rfl dL_law_1062 lk_L_134 rfl (by decide) (by decide) (by decide) rfl rfl h (fun r157 f157 h => ?_)
      refine z_aload_n (pc := 1065) dL_law_1065 rfl ?_
      refine z_aload_n (pc := 1066) dL_law_1066 rfl ?_
      refine z_iload_n (pc := 1067) dL_law_1067 rfl ?_
      refine z_iconst (pc := 1068) (v := 1) dL_law_1068 ic_1 ?_
      refine z_iadd (pc := 1069) dL_law_1069 ?_
      refine z_sld (pc := 1070) hX dL_law_1070 hv.2.1 ?_
      refine k_cVi (pc := 1071) (av := [.int (xs (Int32.toNatClampNeg (x3 + 1)))]) zc7 rfl dL_law_1071 lk_L_137 rfl (by decide) (by decide) (by decide) rfl rfl h (fun r158 f158 h => ?_)
      refine z_icmp_eq (pc := 1074) (t := 1115) dL_law_1074 (by decide) (fun c_1074 => ?_) (fun c_1074 => ?_)
      · replace h := h.1 c_1074
        refine z_iinc (pc := 1115) (v := (x3 + 6)) (lv' := [(3, .int (x3 + 6)), (0, .ref 1200), (1, .ref 0), (2, .ref 52)]) dL_law_1115 rfl (congrArg (fun z => x3 + z) ic_6) (Nat.le_of_ble_eq_true rfl) rfl ?_
        refine z_goto (pc := 1118) (t := 18) dL_law_1118 (by decide) ?_
        exact z_sub [1, 2, 3, 0] rfl h
      · replace h := h.2 c_1074
        refine z_iconst (pc := 1077) (v := 0) dL_law_1077 ic_0 ?_
        exact h.elim
    · replace h := h.2.2.2.2.2.2.2.2.2.2.2.2.2.2.2.2.2.2.2.2.2.2.2.2.2.2.2.2.2.1 c_33_29
      refine z_aload_n (pc := 1079) dL_law_1079 rfl ?_
      refine z_aload_n (pc := 1080) dL_law_1080 rfl ?_
      refine z_iload_n (pc := 1081) dL_law_1081 rfl ?_
      refine z_iconst (pc := 1082) (v := 1) dL_law_1082 ic_1 ?_
      refine z_iadd (pc := 1083) dL_law_1083 ?_
      refine z_sld (pc := 1084) hX dL_law_1084 hv.2.1 ?_
      refine k_cVi (pc := 1085) (av := [.int (xs (Int32.toNatClampNeg (x3 + 1)))]) zc6 rfl dL_law_1085 lk_L_138 rfl (by decide) (by decide) (by decide) rfl rfl h (fun r159 f159 h => ?_)
      refine z_aload_n (pc := 1088) dL_law_1088 rfl ?_
      refine z_aload_n (pc := 1089) dL_law_1089 rfl ?_
      refine z_iload_n (pc := 1090) dL_law_1090 rfl ?_
      refine z_iconst (pc := 1091) (v := 1) dL_law_1091 ic_1 ?_
      refine z_iadd (pc := 1092) dL_law_1092 ?_
      refine z_sld (pc := 1093) hX dL_law_1093 hv.2.1 ?_
      refine k_cVi (pc := 1094) (av := [.int (xs (Int32.toNatClampNeg (x3 + 1)))]) zc7 rfl dL_law_1094 lk_L_141 rfl (by decide) (by decide) (by decide) rfl rfl h (fun r160 f160 h => ?_)
      refine z_icmp_eq (pc := 1097) (t := 1115) dL_law_1097 (by decide) (fun c_1097 => ?_) (fun c_1097 => ?_)
      · replace h := h.1 c_1097
        refine z_iinc (pc := 1115) (v := (x3 + 6)) (lv' := [(3, .int (x3 + 6)), (0, .ref 1200), (1, .ref 0), (2, .ref 52)]) dL_law_1115 rfl (congrArg (fun z => x3 + z) ic_6) (Nat.le_of_ble_eq_true rfl) rfl ?_
        refine z_goto (pc := 1118) (t := 18) dL_law_1118 (by decide) ?_
        exact z_sub [1, 2, 3, 0] rfl h
      · replace h := h.2 c_1097
        refine z_iconst (pc := 1100) (v := 0) dL_law_1100 ic_0 ?_
        exact h.elim
    · replace h := h.2.2.2.2.2.2.2.2.2.2.2.2.2.2.2.2.2.2.2.2.2.2.2.2.2.2.2.2.2.2.1 c_33_30
      refine z_aload_n (pc := 1102) dL_law_1102 rfl ?_
      refine k_cVi (pc := 1103) (av := []) zc6 rfl dL_law_1103 lk_L_142 rfl (by decide) (by decide) (by decide) rfl rfl h (fun r161 f161 h => ?_)
      refine z_aload_n (pc := 1106) dL_law_1106 rfl ?_
      refine k_cVi (pc := 1107) (av := []) zc7 rfl dL_law_1107 lk_L_145 rfl (by decide) (by decide) (by decide) rfl rfl h (fun r162 f162 h => ?_)
      refine z_icmp_eq (pc := 1110) (t := 1115) dL_law_1110 (by decide) (fun c_1110 => ?_) (fun c_1110 => ?_)
      · replace h := h.1 c_1110
        refine z_iinc (pc := 1115) (v := (x3 + 6)) (lv' := [(3, .int (x3 + 6)), (0, .ref 1200), (1, .ref 0), (2, .ref 52)]) dL_law_1115 rfl (congrArg (fun z => x3 + z) ic_6) (Nat.le_of_ble_eq_true rfl) rfl ?_
        refine z_goto (pc := 1118) (t := 18) dL_law_1118 (by decide) ?_
        exact z_sub [1, 2, 3, 0] rfl h
      · replace h := h.2 c_1110
        refine z_iconst (pc := 1113) (v := 0) dL_law_1113 ic_0 ?_
        exact h.elim
    · replace h := h.2.2.2.2.2.2.2.2.2.2.2.2.2.2.2.2.2.2.2.2.2.2.2.2.2.2.2.2.2.2.2 c_33_0 c_33_1 c_33_2 c_33_3 c_33_4 c_33_5 c_33_6 c_33_7 c_33_8 c_33_9 c_33_10 c_33_11 c_33_12 c_33_13 c_33_14 c_33_15 c_33_16 c_33_17 c_33_18 c_33_19 c_33_20 c_33_21 c_33_22 c_33_23 c_33_24 c_33_25 c_33_26 c_33_27 c_33_28 c_33_29 c_33_30
      refine z_iinc (pc := 1115) (v := (x3 + 6)) (lv' := [(3, .int (x3 + 6)), (0, .ref 1200), (1, .ref 0), (2, .ref 52)]) dL_law_1115 rfl (congrArg (fun z => x3 + z) ic_6) (Nat.le_of_ble_eq_true rfl) rfl ?_
      refine z_goto (pc := 1118) (t := 18) dL_law_1118 (by decide) ?_
      exact z_sub [1, 2, 3, 0] rfl h
