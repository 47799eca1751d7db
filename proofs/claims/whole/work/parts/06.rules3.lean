/-! ===== the rules of what is made, of Strings, of the JDK's own ===== -/
def zcap (X : zX) (a b : Nat) : Prop :=
  match X with
  | (_, _, _, R, _, _, _, _, _, _, _, n0, z0, _) => a ≤ n0 + R.cells ∧ b ≤ z0 + R.slots
theorem zcap_of {X : zX} {n0 z0 mc ms : Nat} {Rt : Option Value → zS → Prop} (h : zR X n0 z0 mc ms Rt) {a b : Nat} (ha : a ≤ n0 + mc) (hb : b ≤ z0 + ms) : zcap X a b := by
  obtain ⟨p, l, e, R, s, m, args, below, meth, c, E, n1, z1, Q⟩ := X
  obtain ⟨rfl, rfl, rfl, rfl, -⟩ := h
  exact ⟨ha, hb⟩
def znew (S : zS) (sh : Nat × Nat) (N : Nat) : zS := (S.1 + 1, S.2.1 + N, (fun q => if q = S.1 then sh else S.2.2.1 q), (fun q j => if q = S.1 then none else S.2.2.2.1 q j), (fun q j => if q = S.1 then 0 else S.2.2.2.2 q j))
theorem znew_cel {E : zE} {S : zS} {sh : Nat × Nat} {N q : Nat} (h : q < S.1) : zcel E (znew S sh N) q = zcel E S q := by
  have h2 : q ≠ S.1 := Nat.ne_of_lt h
  simp only [zcel, znew, zfs, if_neg h2]
theorem zws_push {E : zE} {S : zS} {sh : Nat × Nat} {N : Nat} : zws E (znew S sh N) = zws E S ++ [(E.2.2.1 + S.1, zcel E (znew S sh N) S.1)] := by
  show (List.range (S.1 + 1)).map _ = _
  rw [List.range_succ, List.map_append]
  congr 1
  apply List.map_congr_left
  intro q hq
  rw [znew_cel (List.mem_range.mp hq)]
theorem zq_new {E : zE} {S : zS} {q : Nat} {x : va_E} (hD : va_D (zA E) (zws E S ++ [(q, x)])) (hq : q < E.2.2.1 + S.1 + 1) : q = E.2.2.1 + S.1 := by
  have hlen : (zws E S).length = S.1 := by simp [zws]
  have h1 : (zws E S ++ [(q, x)])[S.1]? = some (q, x) := by
    rw [List.getElem?_append_right (by omega), hlen, Nat.sub_self]
    rfl
  have h2 : E.2.2.1 ≤ q := hD.2 _ _ h1
  rcases Nat.lt_or_ge q (E.2.2.1 + S.1) with h | h
  · have h3 : (zws E S ++ [(q, x)])[q - E.2.2.1]? = some (E.2.2.1 + (q - E.2.2.1), zcel E S (q - E.2.2.1)) := by
      rw [List.getElem?_append_left (by omega), zws_at (by omega)]
    have h4 := hD.1 _ _ _ _ h3 h1 (by show E.2.2.1 + (q - E.2.2.1) = q; omega)
    omega
  · omega
theorem zsize_new {p : Program} {l : Launch} {e : Env} {R : Room} {s : State} {m : MethodId} {args : Array Value} {below : List Frame} {meth : Method} {c : Code} {T : State} {locs : List Loc} {E : zE} {n0 : Nat} {S : zS} {slots q : Nat} {x : va_E} (X : Stand p l e R s m args below meth c T locs (S.1 - n0 + 1) slots) (hs : s.heap.size = E.2.2.1 + n0) (hn : n0 ≤ S.1) (hP : va_P E.1 vwCl (zws E S ++ [(q, x)]) T.heap) (hD : va_D (zA E) (zws E S ++ [(q, x)])) : q = E.2.2.1 + S.1 := by
  have h1 : T.heap.size ≤ s.heap.size + (S.1 - n0 + 1) := X.same.2.2.1
  have hlen : (zws E S).length = S.1 := by simp [zws]
  have h2 : (zws E S ++ [(q, x)])[S.1]? = some (q, x) := by
    rw [List.getElem?_append_right (by omega), hlen, Nat.sub_self]
    rfl
  have h3 : q < T.heap.size := (hP _ _ h2).lt
  exact zq_new hD (by omega)
section ZR3
variable {X : zX} {M : zMt} {pc : Nat} {lv lv' : List (Nat × Value)} {st : List Value} {S : zS}
theorem z_new {ci : Nat} {C : String} {T : u_T} {N : Nat} {ty : Nat → FieldType} (hc : zCls ci C T N ty) {idx : Nat} (hd : decode M.2.1 pc = .ok (.new idx, 3)) (hw : ∀ w ∈ [Cond.classLink M.1.cls idx C, .instantiable C N, .initialized C], w ∈ zWs) (hdef : ∀ j, j < N → defaultValue (ty j) = if (zft ci).getD j false = true then .null else .int 0) (hcap : zcap X (S.1 + 1) (S.2.1 + N)) (hn : S.1 + 1 ≤ 1000) (kk : Z X M (pc + 3) lv (.ref S.1 :: st) (znew S (ci, 0) N)) : Z X M pc lv st S := by
  obtain ⟨p, l, e, R, s, m, args, below, meth, c, E, n0, z0, Q⟩ := X
  intro ok cap H locs ls hP hS hl
  obtain ⟨hx, hb, hml, hown, hts, hr, hlk, hnm, hfr, hlo, hK, hKh, hsz⟩ := id ok
  have hcap : S.1 + 1 ≤ n0 + R.cells ∧ S.2.1 + N ≤ z0 + R.slots := hcap
  refine va_new (D := E.1) (cl := vwCl) (ws := zws E S) (tys := ztys E) (A := zA E) hx hb hts hc.2.1 ty hc.2.2.1 hown (hts _ (hw _ (by simp))) (hts _ (hw _ (by simp))) (hts _ (hw _ (by simp))) hK.1 hP (zws_D E S) hS (fun q hq => by have := hsz; show E.2.2.1 ≤ q; omega) hc.1 (fs := zfs E (znew S (ci, 0) N) S.1 ci) (fun j hj => ?_) (by omega) (by omega) hd (fun q H1 hP1 hD1 hS1 => ?_)
  · rw [hdef j hj]
    unfold vp_V
    rw [List.getD_eq_getElem?_getD (l := zfs E (znew S (ci, 0) N) S.1 ci), zfs_at (by rw [← hc.2.2.2.2.1]; exact hj)]
    simp only [znew, if_pos]
    split <;> rfl
  · intro T1 hT1 X1
    have hq := zsize_new X1 hsz cap.1 (by rw [hT1]; exact hP1) hD1
    subst hq
    have ez : zws E S ++ [(E.2.2.1 + S.1, .inr (ci, zfs E (znew S (ci, 0) N) S.1 ci))] = zws E (znew S (ci, 0) N) := by
      rw [zws_push, zcel_o (S := znew S (ci, 0) N) (c := ci) (by simp [znew]) hc.2.2.2.2.2]
    rw [ez] at hP1
    have a4 := kk ok (by simp only [znew]; omega) H1 locs ls hP1 hS1 hl
    have e1 : (znew S (ci, 0) N).1 - n0 = S.1 - n0 + 1 := by simp only [znew]; omega
    have e2 : (znew S (ci, 0) N).2.1 - z0 = S.2.1 - z0 + N := by simp only [znew]; omega
    have e3 : zad E S.1 = E.2.2.1 + S.1 := zad_lt (by omega)
    rw [e1, e2] at a4
    have a5 : W p l e R s m args below meth c H1 locs (S.1 - n0 + 1) (S.2.1 - z0 + N) Q (F0 m (pc + 3) ls (.ref (zad E S.1) :: st.map (zv E))) := a4
    rw [e3] at a5
    exact a5 T1 hT1 X1
theorem z_newaT {t n : Nat} {at1 : ArrayType} {ty1 : FieldType} {i : Int32} (ht : (t = 0 ∧ at1 = .int ∧ ty1 = .int) ∨ (t = 1 ∧ at1 = .boolean ∧ ty1 = .boolean)) (hd : decode M.2.1 pc = .ok (.newarray at1, 2)) (hw : Cond.arrayClass ty1 ∈ zWs) (hi : ¬ i < 0) (hin : i.toNatClampNeg = n) (hn2 : n ≤ 10000) (hcap : zcap X (S.1 + 1) (S.2.1 + n)) (hn : S.1 + 1 ≤ 1000) (kk : Z X M (pc + 2) lv (.ref S.1 :: st) (znew S (t + 8, n) n)) : Z X M pc lv (.int i :: st) S := by
  obtain ⟨p, l, e, R, s, m, args, below, meth, c, E, n0, z0, Q⟩ := X
  intro ok cap H locs ls hP hS hl
  obtain ⟨hx, hb, hml, hown, hts, hr, hlk, hnm, hfr, hlo, hK, hKh, hsz⟩ := id ok
  have hcap : S.1 + 1 ≤ n0 + R.cells ∧ S.2.1 + n ≤ z0 + R.slots := hcap
  have hty : newarray.typeOf at1 = ty1 := by rcases ht with ⟨-, rfl, rfl⟩ | ⟨-, rfl, rfl⟩ <;> rfl
  have hbt : componentBytes ty1 ≤ 8 := by rcases ht with ⟨-, -, rfl⟩ | ⟨-, -, rfl⟩ <;> decide
  have hmul : n * componentBytes ty1 ≤ 10000 * 8 := Nat.mul_le_mul hn2 hbt
  refine va_newa (D := E.1) (cl := vwCl) (ws := zws E S) (tys := ztys E) (A := zA E) (ty := ty1) (N' := n) (a0 := (n, .inl (fun _ => 0))) hx hb (by rw [hty]; exact hts _ hw) hty hK.1 hP (zws_D E S) hS (fun q hq => by have := hsz; show E.2.2.1 ≤ q; omega) (fun cA => by rcases ht with ⟨-, -, rfl⟩ | ⟨-, -, rfl⟩ <;> (rw [vp_cell_i]; rfl)) hi hin (by omega) (by omega) (by omega) hd (fun q cA H1 hK1 hP1 hD1 hS1 => ?_)
  have hcA : cA = E.2.1 t := by
    have h1 := (hK1.2 4 (cA, ty1) rfl).2
    rcases ht with ⟨rfl, -, rfl⟩ | ⟨rfl, -, rfl⟩
    · have h2 := (hK1.2 0 (E.2.1 0, .int) rfl).2
      exact Option.some.inj (h1.symm.trans h2)
    · have h2 := (hK1.2 1 (E.2.1 1, .boolean) rfl).2
      exact Option.some.inj (h1.symm.trans h2)
  intro T1 hT1 X1
  have hq := zsize_new X1 hsz cap.1 (by rw [hT1]; exact hP1) hD1
  subst hq
  subst hcA
  have ht2 : t < 2 := by rcases ht with ⟨h, -⟩ | ⟨h, -⟩ <;> omega
  have ez : zws E S ++ [(E.2.2.1 + S.1, .inl (E.2.1 t, (n, .inl (fun _ => 0))))] = zws E (znew S (t + 8, n) n) := by
    rw [zws_push, zcel_i (S := znew S (t + 8, n) n) (c := t) (n := n) (by simp [znew]) ht2]
    simp [znew]
  rw [ez] at hP1
  have a4 := kk ok (by simp only [znew]; omega) H1 locs ls hP1 hS1 hl
  have e1 : (znew S (t + 8, n) n).1 - n0 = S.1 - n0 + 1 := by simp only [znew]; omega
  have e2 : (znew S (t + 8, n) n).2.1 - z0 = S.2.1 - z0 + n := by simp only [znew]; omega
  have e3 : zad E S.1 = E.2.2.1 + S.1 := zad_lt (by omega)
  rw [e1, e2] at a4
  have a5 : W p l e R s m args below meth c H1 locs (S.1 - n0 + 1) (S.2.1 - z0 + n) Q (F0 m (pc + 2) ls (.ref (zad E S.1) :: st.map (zv E))) := a4
  rw [e3] at a5
  exact a5 T1 hT1 X1
theorem z_newq {t n : Nat} {C : String} {idx : Nat} {i : Int32} (ht : (t = 0 ∧ C = "LightSheets$Page") ∨ (t = 1 ∧ C = "LightSheets$Row")) (hd : decode M.2.1 pc = .ok (.anewarray idx, 3)) (hw : Cond.classLink M.1.cls idx C ∈ zWs) (hi : ¬ i < 0) (hin : i.toNatClampNeg = n) (hn2 : n ≤ 10000) (hcap : zcap X (S.1 + 1) (S.2.1 + n)) (hn : S.1 + 1 ≤ 1000) (kk : Z X M (pc + 3) lv (.ref S.1 :: st) (znew S (t + 10, n) n)) : Z X M pc lv (.int i :: st) S := by
  obtain ⟨p, l, e, R, s, m, args, below, meth, c, E, n0, z0, Q⟩ := X
  intro ok cap H locs ls hP hS hl
  obtain ⟨hx, hb, hml, hown, hts, hr, hlk, hnm, hfr, hlo, hK, hKh, hsz⟩ := id ok
  have hcap : S.1 + 1 ≤ n0 + R.cells ∧ S.2.1 + n ≤ z0 + R.slots := hcap
  have hao : va_AO C s := by
    rcases ht with ⟨-, rfl⟩ | ⟨-, rfl⟩
    · exact hK.2.2.2.1
    · exact hK.2.2.2.2
  refine va_newq (D := E.1) (cl := vwCl) (ws := zws E S) (tys := ztys E) (A := zA E) (C := C) hx hb hown (hts _ hw) hao hK.1 hP (zws_D E S) hS (fun q hq => by have := hsz; show E.2.2.1 ≤ q; omega) hi hin (by omega) (by omega) (by omega) hd (fun q cA H1 hK1 hP1 hD1 hS1 => ?_)
  have hcA : cA = E.2.1 (t + 2) := by
    obtain ⟨kA, comp, g1, g2, g3, g4⟩ := (hK1.2 4 (cA, .object C) rfl).2
    rcases ht with ⟨rfl, rfl⟩ | ⟨rfl, rfl⟩
    · obtain ⟨kB, comp2, f1, f2, f3, f4⟩ := (hK1.2 2 (E.2.1 2, .object "LightSheets$Page") rfl).2
      exact Option.some.inj (g4.symm.trans f4)
    · obtain ⟨kB, comp2, f1, f2, f3, f4⟩ := (hK1.2 3 (E.2.1 3, .object "LightSheets$Row") rfl).2
      exact Option.some.inj (g4.symm.trans f4)
  intro T1 hT1 X1
  have hq := zsize_new X1 hsz cap.1 (by rw [hT1]; exact hP1) hD1
  subst hq
  subst hcA
  have ez : zws E S ++ [(E.2.2.1 + S.1, .inl (E.2.1 (t + 2), n, .inr (.inr (.inr (.inr (fun _ => none))))))] = zws E (znew S (t + 10, n) n) := by
    rw [zws_push, zcel_q (S := znew S (t + 10, n) n) (c := t) (n := n) (by simp [znew])]
    simp [znew]
  rw [ez] at hP1
  have a4 := kk ok (by simp only [znew]; omega) H1 locs ls hP1 hS1 hl
  have e1 : (znew S (t + 10, n) n).1 - n0 = S.1 - n0 + 1 := by simp only [znew]; omega
  have e2 : (znew S (t + 10, n) n).2.1 - z0 = S.2.1 - z0 + n := by simp only [znew]; omega
  have e3 : zad E S.1 = E.2.2.1 + S.1 := zad_lt (by omega)
  rw [e1, e2] at a4
  have a5 : W p l e R s m args below meth c H1 locs (S.1 - n0 + 1) (S.2.1 - z0 + n) Q (F0 m (pc + 3) ls (.ref (zad E S.1) :: st.map (zv E))) := a4
  rw [e3] at a5
  exact a5 T1 hT1 X1
theorem z_aast {k n k2 t : Nat} {i : Int32} (ht : (t = 0 ∧ (S.2.2.1 k2).1 = 2) ∨ (t = 1 ∧ (S.2.2.1 k2).1 = 4)) (hd : decode M.2.1 pc = .ok (.aastore, 1)) (hk : k < S.1) (hk2 : k2 < S.1) (hs : S.2.2.1 k = (t + 10, n)) (hi : vp_in i n) (kk : Z X M (pc + 1) lv st (zsetr S k i.toNatClampNeg (some k2))) : Z X M pc lv (.ref k2 :: .int i :: .ref k :: st) S := by
  obtain ⟨p, l, e, R, s, m, args, below, meth, c, E, n0, z0, Q⟩ := X
  intro ok cap H locs ls hP hS hl
  obtain ⟨hx, hb, hml, hown, hts, hr, hlk, hnm, hfr, hlo, hK, hKh, hsz⟩ := id ok
  have e1 : zad E k = E.2.2.1 + k := zad_lt (Nat.lt_of_lt_of_le hk cap.2.2.2.2)
  have e2 : zad E k2 = E.2.2.1 + k2 := zad_lt (Nat.lt_of_lt_of_le hk2 cap.2.2.2.2)
  show W p l e R s m args below meth c H locs _ _ Q (F0 m pc ls (.ref (zad E k2) :: .int i :: .ref (zad E k) :: st.map (zv E)))
  rw [e1, e2]
  have ew : (zws E S).set k (E.2.2.1 + k, .inl (E.2.1 (t + 2), n, .inr (.inr (.inr (.inr (va_up (fun j => (S.2.2.2.1 k j).map (zad E)) i.toNatClampNeg (some (E.2.2.1 + k2)))))))) = zws E (zsetr S k i.toNatClampNeg (some k2)) := zws_set rfl (by
    rw [zcel_q (S := zsetr S k i.toNatClampNeg (some k2)) (c := t) hs]
    simp only [zsetr, zup_eq]
    congr 7
    funext b
    simp only [va_up]
    split <;> simp [e2]) (fun q h => zcel_neR h)
  have hq : (zws E S)[k]? = some (E.2.2.1 + k, .inl (E.2.1 (t + 2), n, .inr (.inr (.inr (.inr (fun j => (S.2.2.2.1 k j).map (zad E))))))) := by rw [zws_at hk, zcel_q hs]
  rcases ht with ⟨rfl, h2⟩ | ⟨rfl, h2⟩
  · refine va_astq (D := E.1) (cl := vwCl) (ws := zws E S) (tys := ztys E) (r := (RX2, TX2, 8)) hx hb hK.1 hP (zws_D E S) hS k 2 k2 2 hq rfl (by rw [zws_at hk2, zcel_o h2 (by decide)]) rfl hi hd (fun H1 locs1 hP1 hD1 hS1 => ?_)
    rw [ew] at hP1
    exact kk ok cap H1 locs1 ls hP1 hS1 hl
  · refine va_astq (D := E.1) (cl := vwCl) (ws := zws E S) (tys := ztys E) (r := (RX4, TX4, 3)) hx hb hK.1 hP (zws_D E S) hS k 3 k2 4 hq rfl (by rw [zws_at hk2, zcel_o h2 (by decide)]) rfl hi hd (fun H1 locs1 hP1 hD1 hS1 => ?_)
    rw [ew] at hP1
    exact kk ok cap H1 locs1 ls hP1 hS1 hl
/-- Object's own constructor -/
theorem z_objInit {idx k : Nat} (hd : decode M.2.1 pc = .ok (.invokespecial idx, 3)) (hw : ∀ w ∈ [Cond.methodLink M.1.cls idx Lib.objectInit, .instanceMethod Lib.objectInit, .code Lib.objectInit ⟨#[0xb1]⟩ 1 none], w ∈ zWs) (hD : 1 ≤ M.2.2.2.2) (hst : Nat.ble ((st.map fun v => v.category).sum) 8 = true) (kk : Z X M (pc + 3) lv st S) : Z X M pc lv (.ref k :: st) S := by
  obtain ⟨p, l, e, R, s, m, args, below, meth, c, E, n0, z0, Q⟩ := X
  intro ok cap H locs ls hP hS hl
  obtain ⟨hx, hb, hml, hown, hts, hr, hlk, hnm, hfr, hlo, hK, hKh, hsz⟩ := id ok
  refine W.objInit hx hb hown (hts _ (hw _ (by simp))) (hts _ (hw _ (by simp))) (hts _ (hw _ (by simp))) rfl (by rw [hml]; exact hl.1) (a := zad E k) (rest := st.map (zv E)) rfl hd (Nat.le_trans hD hfr) ?_ ?_
  · have h1 : 2 * (F0 m pc ls (st.map (zv E))).monitorRoom + ((st.map (zv E)).map fun v => v.category).sum ≤ 8 := lv_room (by rw [zcats]; exact Nat.le_of_ble_eq_true hst)
    have h2 : 28 * 1 ≤ 28 * M.2.2.2.2 := Nat.mul_le_mul_left 28 hD
    have h3 : 2 * (F0 m pc ls (st.map (zv E))).monitorRoom + ((st.map (zv E)).map fun v => v.category).sum + 12 ≤ R.locals := by omega
    exact h3
  · exact kk ok cap H locs ls hP hS hl
/-- a constructor of ours, by an ordinary link or a nest mate's -/
theorem z_callI {idx n k mc ms : Nat} {M' : zMt} {av : List Value} {Rt : Option Value → zS → Prop} (hd : decode M.2.1 pc = .ok (.invokespecial idx, 3)) (lk : zLkI M.1.cls idx M' n ∨ zLkJ M.1.cls idx M' n) (hn : av.length = n) (hD : M'.2.2.2.2 + 1 ≤ M.2.2.2.2) (hL : M'.2.2.1 ≤ 9) (hst : Nat.ble ((st.map fun v => v.category).sum) 8 = true) (hM : zM M' mc ms (.ref k :: av) S Rt) (hcap : zcap X (S.1 + mc) (S.2.1 + ms)) (hn2 : S.1 + mc ≤ 1000)
    (kk : ∀ v S', Rt v S' → v = none ∧ (S'.1 = S.1 + mc ∧ S'.2.1 = S.2.1 + ms) ∧ Z X M (pc + 3) lv st S') : Z X M pc lv (av.reverse ++ .ref k :: st) S := by
  obtain ⟨p, l, e, R, s, m, args, below, meth, c, E, n0, z0, Q⟩ := X
  intro ok cap H locs ls hP hS hl
  obtain ⟨hx, hb, hml, hown, hts, hr, hlk, hnm, hfr, hlo, hK, hKh, hsz⟩ := id ok
  have hcap : S.1 + mc ≤ n0 + R.cells ∧ S.2.1 + ms ≤ z0 + R.slots := hcap
  have est : (av.reverse ++ .ref k :: st).map (zv E) = (av.map (zv E)).reverse ++ .ref (zad E k) :: st.map (zv E) := by simp [zv]
  rw [est]
  intro T hT X
  have hsize := zsize X hsz cap.1 (by rw [hT]; exact hP) (by rw [hT]; exact hS)
  rw [hT] at hsize
  have hpre : PreS s H (zPc E (.ref k :: av) S) (.ref (zad E k) :: av.map (zv E)) := ⟨zPc_blind E _ S, fun U hU hW => ⟨rfl, by rw [hU]; exact hsize, by rw [hU]; exact hP, zK.warm hW hK, by rw [hU]; exact zKh.moved hW.alike hKh hS.2.1⟩⟩
  have hroom : ({ frames := M'.2.2.2.2, cells := mc, slots := ms, locals := 28 * M'.2.2.2.2 } : Room).frames + 1 ≤ R.frames ∧ 8 + (M'.2.2.1 + 11) + ({ frames := M'.2.2.2.2, cells := mc, slots := ms, locals := 28 * M'.2.2.2.2 } : Room).locals ≤ R.locals := ⟨Nat.le_trans hD hfr, by show 8 + (M'.2.2.1 + 11) + 28 * M'.2.2.2.2 ≤ R.locals; omega⟩
  have hM2 := hM l E
  have hrun : va_Run p l e R s m args below meth c H locs (S.1 - n0) (S.2.1 - z0) mc ms (F0 m pc ls ((av.map (zv E)).reverse ++ .ref (zad E k) :: st.map (zv E))) (st.map (zv E)) (zQc E Rt (Value.ref (zad E k) :: av.map (zv E)).toArray) (zA E) := by
    rcases lk with lk | lk
    · have hret := lk.2.2.1
      have hcode := lk.1 (.code M'.1 M'.2.1 M'.2.2.1 none) (by simp)
      rw [hret] at hM2
      have hG : GoodIn zWs (Cond.code M'.1 M'.2.1 M'.2.2.1 none :: zWs) := by
        intro w hw
        rcases List.mem_cons.mp hw with rfl | hw
        · exact ⟨hcode, (zWs_good hcode).2⟩
        · exact ⟨hw, (zWs_good hw).2⟩
      exact va_runI (As := av.map (zv E)) (rest := st.map (zv E)) ⟨hx, hb, hml, hown, hts⟩ hM2 (cwI n hts hG rfl rfl rfl (hts _ (lk.1 _ (by simp))) (hts _ (lk.1 _ (by simp))) (hts _ (lk.1 _ (by simp))) lk.2.1 lk.2.2.2 hroom) hpre rfl (by rw [List.length_map]; exact hn) hl.1 rfl (lv_room (by rw [zcats]; exact Nat.le_of_ble_eq_true hst)) hd ⟨by omega, by omega⟩
    · have hret := lk.2.2.2.1
      have hcode := lk.2.1 (.code M'.1 M'.2.1 M'.2.2.1 none) (by simp)
      rw [hret] at hM2
      have hG : GoodIn zWs (Cond.code M'.1 M'.2.1 M'.2.2.1 none :: zWs) := by
        intro w hw
        rcases List.mem_cons.mp hw with rfl | hw
        · exact ⟨hcode, (zWs_good hcode).2⟩
        · exact ⟨hw, (zWs_good hw).2⟩
      exact va_runIN (As := av.map (zv E)) (rest := st.map (zv E)) ⟨hx, hb, hml, hown, hts⟩ hM2 ⟨va_cnB n hts hG rfl rfl rfl (hK.2.1 _ lk.1) (hts _ (lk.2.1 _ (by simp))) lk.2.2.2.2 hroom, lk.2.2.1, hts _ (lk.2.1 _ (by simp))⟩ hpre rfl (by rw [List.length_map]; exact hn) hl.1 rfl (lv_room (by rw [zcats]; exact Nat.le_of_ble_eq_true hst)) hd ⟨by omega, by omega⟩
  refine z_after (E := E) (Rt := Rt) hrun hS (fun v S' H1 locs1 h1 h2 h3 => ?_) T hT X
  obtain ⟨a0, ⟨a1, a2⟩, a3⟩ := kk v S' h1
  subst a0
  have a4 := a3 ok ⟨by omega, by omega, by omega, by omega, by omega⟩ H1 locs1 ls h2 h3 hl
  rw [a1, a2] at a4
  have e1 : S.1 + mc - n0 = S.1 - n0 + mc := by omega
  have e2 : S.2.1 + ms - z0 = S.2.1 - z0 + ms := by omega
  rw [e1, e2] at a4
  exact a4
/-- System.arraycopy of ints -/
def zcpy (S : zS) (q0 q1 sp dp n : Nat) : zS := (S.1, S.2.1, S.2.2.1, S.2.2.2.1, fun q => if q = q1 then va_cpy (S.2.2.2.2 q0) (S.2.2.2.2 q1) sp dp n else S.2.2.2.2 q)
theorem z_copyi {idx q0 q1 n0' n1 : Nat} {sp dp n : Int32} (hd : decode M.2.1 pc = .ok (.invokestatic idx, 3)) (hw : ∀ w ∈ [Cond.methodLink M.1.cls idx arraycopyName, .static arraycopyName, .initialized "java/lang/System", .native arraycopyName], w ∈ zWs) (hD : 1 ≤ M.2.2.2.2) (hst : Nat.ble ((st.map fun v => v.category).sum) 4 = true) (hk0 : q0 < S.1) (hk1 : q1 < S.1) (hs0 : S.2.2.1 q0 = (8, n0')) (hs1 : S.2.2.1 q1 = (8, n1)) (h1 : ¬ sp < 0) (h2 : ¬ dp < 0) (h3 : ¬ n < 0) (h4 : sp.toNatClampNeg + n.toNatClampNeg ≤ n0') (h5 : dp.toNatClampNeg + n.toNatClampNeg ≤ n1) (kk : Z X M (pc + 3) lv st (zcpy S q0 q1 sp.toNatClampNeg dp.toNatClampNeg n.toNatClampNeg)) : Z X M pc lv (.int n :: .int dp :: .ref q1 :: .int sp :: .ref q0 :: st) S := by
  obtain ⟨p, l, e, R, s, m, args, below, meth, c, E, n0, z0, Q⟩ := X
  intro ok cap H locs ls hP hS hl
  obtain ⟨hx, hb, hml, hown, hts, hr, hlk, hnm, hfr, hlo, hK, hKh, hsz⟩ := id ok
  have e0 : zad E q0 = E.2.2.1 + q0 := zad_lt (Nat.lt_of_lt_of_le hk0 cap.2.2.2.2)
  have e1 : zad E q1 = E.2.2.1 + q1 := zad_lt (Nat.lt_of_lt_of_le hk1 cap.2.2.2.2)
  show W p l e R s m args below meth c H locs _ _ Q (F0 m pc ls (.int n :: .int dp :: .ref (zad E q1) :: .int sp :: .ref (zad E q0) :: st.map (zv E)))
  rw [e0, e1]
  have ew : (zws E S).set q1 (E.2.2.1 + q1, .inl (E.2.1 0, n1, .inl (va_cpy (S.2.2.2.2 q0) (S.2.2.2.2 q1) sp.toNatClampNeg dp.toNatClampNeg n.toNatClampNeg))) = zws E (zcpy S q0 q1 sp.toNatClampNeg dp.toNatClampNeg n.toNatClampNeg) := zws_set rfl (by
    rw [zcel_i (S := zcpy S q0 q1 sp.toNatClampNeg dp.toNatClampNeg n.toNatClampNeg) (c := 0) hs1 (by decide)]
    simp only [zcpy, if_pos]) (fun q h => by simp only [zcel, zcpy, zfs, if_neg h])
  have h28 : 28 * 1 ≤ 28 * M.2.2.2.2 := Nat.mul_le_mul_left 28 hD
  refine va_copyi (D := E.1) (cl := vwCl) (ws := zws E S) (tys := ztys E) (ty := .int) hx hb (hml.trans hl.1.symm) hown (hts _ (hw _ (by simp))) (hts _ (hw _ (by simp))) (hts _ (hw _ (by simp))) (hts _ (hw _ (by simp))) hK.1 hP (zws_D E S) hS q0 q1 0 0 (by rw [zws_at hk0, zcel_i (c := 0) hs0 (by decide)]) (by rw [zws_at hk1, zcel_i (c := 0) hs1 (by decide)]) rfl rfl rfl h1 h2 h3 h4 h5 (fun _ _ => rfl) (Nat.le_trans hD hfr) ?_ hd (fun H1 locs1 hP1 hD1 hS1 => ?_)
  · rw [zcats]
    have h6 := Nat.le_of_ble_eq_true hst
    have h7 : nativeFrameWords "java/lang/System" "arraycopy" 5 + 11 ≤ 24 := by decide
    omega
  · rw [ew] at hP1
    exact kk ok cap H1 locs1 ls hP1 hS1 hl
theorem z_mmin {idx : Nat} {x y : Int32} (hd : decode M.2.1 pc = .ok (.invokestatic idx, 3)) (hw : ∀ w ∈ [Cond.methodLink M.1.cls idx Lib.Math.min.name, .static Lib.Math.min.name, .initialized "java/lang/Math", .code Lib.Math.min.name Lib.Math.min.code 2 (some .int)], w ∈ zWs) (hD : 1 ≤ M.2.2.2.2) (hst : Nat.ble ((st.map fun v => v.category).sum) 8 = true) (kk : Z X M (pc + 3) lv (.int (if y < x then y else x) :: st) S) : Z X M pc lv (.int y :: .int x :: st) S := by
  obtain ⟨p, l, e, R, s, m, args, below, meth, c, E, n0, z0, Q⟩ := X
  intro ok cap H locs ls hP hS hl
  obtain ⟨hx, hb, hml, hown, hts, hr, hlk, hnm, hfr, hlo, hK, hKh, hsz⟩ := id ok
  have h28 : 28 * 1 ≤ 28 * M.2.2.2.2 := Nat.mul_le_mul_left 28 hD
  refine va_mmin hx hb (hml.trans hl.1.symm) hown (hts _ (hw _ (by simp))) (hts _ (hw _ (by simp))) (hts _ (hw _ (by simp))) (hts _ (hw _ (by simp))) (Nat.le_trans hD hfr) ?_ (by omega) (by omega) hd (kk ok cap H locs ls hP hS hl)
  have h6 := Nat.le_of_ble_eq_true hst
  rw [zcats]
  omega
theorem z_mmax {idx : Nat} {x y : Int32} (hd : decode M.2.1 pc = .ok (.invokestatic idx, 3)) (hw : ∀ w ∈ [Cond.methodLink M.1.cls idx Lib.Math.max.name, .static Lib.Math.max.name, .initialized "java/lang/Math", .code Lib.Math.max.name Lib.Math.max.code 2 (some .int)], w ∈ zWs) (hD : 1 ≤ M.2.2.2.2) (hst : Nat.ble ((st.map fun v => v.category).sum) 8 = true) (kk : Z X M (pc + 3) lv (.int (if x < y then y else x) :: st) S) : Z X M pc lv (.int y :: .int x :: st) S := by
  obtain ⟨p, l, e, R, s, m, args, below, meth, c, E, n0, z0, Q⟩ := X
  intro ok cap H locs ls hP hS hl
  obtain ⟨hx, hb, hml, hown, hts, hr, hlk, hnm, hfr, hlo, hK, hKh, hsz⟩ := id ok
  have h28 : 28 * 1 ≤ 28 * M.2.2.2.2 := Nat.mul_le_mul_left 28 hD
  refine va_mmax hx hb (hml.trans hl.1.symm) hown (hts _ (hw _ (by simp))) (hts _ (hw _ (by simp))) (hts _ (hw _ (by simp))) (hts _ (hw _ (by simp))) (Nat.le_trans hD hfr) ?_ (by omega) (by omega) hd (kk ok cap H locs ls hP hS hl)
  have h6 := Nat.le_of_ble_eq_true hst
  rw [zcats]
  omega
/-- Strings: constant i is the reference 1000 + i, its bytes 1100 + i -/
theorem z_gSv {idx i : Nat} (hd : decode M.2.1 pc = .ok (.getfield idx, 3)) (hi : i < 8) (hw : Cond.fieldLink M.1.cls idx "java/lang/String" "value" "[B" ∈ zWs) (kk : Z X M (pc + 3) lv (.ref (1100 + i) :: st) S) : Z X M pc lv (.ref (1000 + i) :: st) S := by
  obtain ⟨p, l, e, R, s, m, args, below, meth, c, E, n0, z0, Q⟩ := X
  intro ok cap H locs ls hP hS hl
  obtain ⟨hx, hb, hml, hown, hts, hr, hlk, hnm, hfr, hlo, hK, hKh, hsz⟩ := id ok
  have e1 : zad E (1000 + i) = E.2.2.2 i := by simp [zad, show ¬ 1000 + i < 1000 by omega]
  have e2 : zad E (1100 + i) = E.2.2.2 (100 + i) := by simp [zad, show ¬ 1100 + i < 1000 by omega, show 1100 + i - 1000 = 100 + i by omega]
  have a4 : W p l e R s m args below meth c H locs (S.1 - n0) (S.2.1 - z0) Q (F0 m (pc + 3) ls (.ref (zad E (1100 + i)) :: st.map (zv E))) := kk ok cap H locs ls hP hS hl
  show W p l e R s m args below meth c H locs _ _ Q (F0 m pc ls (.ref (zad E (1000 + i)) :: st.map (zv E)))
  rw [e1]
  rw [e2] at a4
  exact vk_getf hx hb (hKh.1.1 i hi).2.2.1 hS hown (hts _ hw) (fun _ h => h) hd a4
theorem z_gSc {idx i : Nat} (hd : decode M.2.1 pc = .ok (.getfield idx, 3)) (hi : i < 8) (hw : Cond.fieldLink M.1.cls idx "java/lang/String" "coder" "B" ∈ zWs) (kk : Z X M (pc + 3) lv (.int 0 :: st) S) : Z X M pc lv (.ref (1000 + i) :: st) S := by
  obtain ⟨p, l, e, R, s, m, args, below, meth, c, E, n0, z0, Q⟩ := X
  intro ok cap H locs ls hP hS hl
  obtain ⟨hx, hb, hml, hown, hts, hr, hlk, hnm, hfr, hlo, hK, hKh, hsz⟩ := id ok
  have e1 : zad E (1000 + i) = E.2.2.2 i := by simp [zad, show ¬ 1000 + i < 1000 by omega]
  show W p l e R s m args below meth c H locs _ _ Q (F0 m pc ls (.ref (zad E (1000 + i)) :: st.map (zv E)))
  rw [e1]
  exact vk_getf hx hb (hKh.1.1 i hi).2.1 hS hown (hts _ hw) (fun _ h => h) hd (kk ok cap H locs ls hP hS hl)
theorem z_baldS {i : Nat} {j : Int32} (hd : decode M.2.1 pc = .ok (.baload, 1)) (hi : i < 8) (hj : vp_in j (zLen.getD i 0)) (kk : Z X M (pc + 1) lv (.int ((zByt.getD i []).getD j.toNatClampNeg 0) :: st) S) : Z X M pc lv (.int j :: .ref (1100 + i) :: st) S := by
  obtain ⟨p, l, e, R, s, m, args, below, meth, c, E, n0, z0, Q⟩ := X
  intro ok cap H locs ls hP hS hl
  obtain ⟨hx, hb, hml, hown, hts, hr, hlk, hnm, hfr, hlo, hK, hKh, hsz⟩ := id ok
  have e2 : zad E (1100 + i) = E.2.2.2 (100 + i) := by simp [zad, show ¬ 1100 + i < 1000 by omega, show 1100 + i - 1000 = 100 + i by omega]
  show W p l e R s m args below meth c H locs _ _ Q (F0 m pc ls (.int j :: .ref (zad E (1100 + i)) :: st.map (zv E)))
  rw [e2]
  obtain ⟨cell, g1, g2, g3, g4, g5, g6, g7⟩ := (hKh.1.1 i hi).2.2.2.kept hS.2.1
  have hlt : j.toNatClampNeg < zLen.getD i 0 := Nat.not_le.mp fun q => hj (Or.inr q)
  exact W.bald (v := .int ((zByt.getD i []).getD j.toNatClampNeg 0)) hx hb g1 g2 g3 (fun q => hj (q.imp_right (fun z => Nat.le_trans g4 z))) (g6 _ hlt) rfl rfl hd (kk ok cap H locs ls hP hS hl)
theorem z_alenS {i : Nat} {v : Int32} (hd : decode M.2.1 pc = .ok (.arraylength, 1)) (hi : i < 8) (hv : Int32.ofNat (zLen.getD i 0) = v) (kk : Z X M (pc + 1) lv (.int v :: st) S) : Z X M pc lv (.ref (1100 + i) :: st) S := by
  obtain ⟨p, l, e, R, s, m, args, below, meth, c, E, n0, z0, Q⟩ := X
  intro ok cap H locs ls hP hS hl
  obtain ⟨hx, hb, hml, hown, hts, hr, hlk, hnm, hfr, hlo, hK, hKh, hsz⟩ := id ok
  have e2 : zad E (1100 + i) = E.2.2.2 (100 + i) := by simp [zad, show ¬ 1100 + i < 1000 by omega, show 1100 + i - 1000 = 100 + i by omega]
  show W p l e R s m args below meth c H locs _ _ Q (F0 m pc ls (.ref (zad E (1100 + i)) :: st.map (zv E)))
  rw [e2]
  obtain ⟨cell, g1, g2, g3, g4, g5, g6, g7⟩ := (hKh.1.1 i hi).2.2.2.kept hS.2.1
  exact W.alen (n := v) hx hb g1 g2 (g5.trans hv) rfl rfl hd (kk ok cap H locs ls hP hS hl)
theorem z_getsC {idx : Nat} (hd : decode M.2.1 pc = .ok (.getstatic idx, 3)) (hw : Cond.fieldLink M.1.cls idx "java/lang/String" "COMPACT_STRINGS" "Z" ∈ zWs) (kk : Z X M (pc + 3) lv (.int 1 :: st) S) : Z X M pc lv st S := by
  obtain ⟨p, l, e, R, s, m, args, below, meth, c, E, n0, z0, Q⟩ := X
  intro ok cap H locs ls hP hS hl
  obtain ⟨hx, hb, hml, hown, hts, hr, hlk, hnm, hfr, hlo, hK, hKh, hsz⟩ := id ok
  exact va_gets hx hb hKh.2.1 hS hown (hts _ hw) (fun _ h => h) hd (kk ok cap H locs ls hP hS hl)
theorem z_getsF {idx : Nat} (hd : decode M.2.1 pc = .ok (.getstatic idx, 3)) (hw : Cond.fieldLink M.1.cls idx "jdk/internal/util/Preconditions" "SIOOBE_FORMATTER" "Ljava/util/function/BiFunction;" ∈ zWs) (kk : ∀ v : Value, v = .null ∨ v = .ref 1300 → Z X M (pc + 3) lv (v :: st) S) : Z X M pc lv st S := by
  obtain ⟨p, l, e, R, s, m, args, below, meth, c, E, n0, z0, Q⟩ := X
  intro ok cap H locs ls hP hS hl
  obtain ⟨hx, hb, hml, hown, hts, hr, hlk, hnm, hfr, hlo, hK, hKh, hsz⟩ := id ok
  obtain ⟨v, hv, hZ⟩ := hKh.2.2
  rcases hv with rfl | rfl
  · exact va_gets hx hb hZ hS hown (hts _ hw) (fun _ h => h) hd (kk .null (Or.inl rfl) ok cap H locs ls hP hS hl)
  · have e1 : zad E 1300 = E.2.2.2 300 := by simp [zad]
    have a4 : W p l e R s m args below meth c H locs (S.1 - n0) (S.2.1 - z0) Q (F0 m (pc + 3) ls (.ref (zad E 1300) :: st.map (zv E))) := kk (.ref 1300) (Or.inr rfl) ok cap H locs ls hP hS hl
    rw [e1] at a4
    exact va_gets hx hb hZ hS hown (hts _ hw) (fun _ h => h) hd a4
theorem z_callT {idx n i : Nat} {M' : zMt} {av : List Value} {Rt : Option Value → zS → Prop} (hC : M'.1.cls = "java/lang/String") (hd : decode M.2.1 pc = .ok (.invokevirtual idx, 3)) (lk : zLkV M.1.cls idx M' n) (hn : av.length = n) (hD : M'.2.2.2.2 + 1 ≤ M.2.2.2.2) (hL : M'.2.2.1 ≤ 9) (hi : i < 8) (hst : Nat.ble ((st.map fun v => v.category).sum) 8 = true) (hM : zM M' 0 0 (.ref (1000 + i) :: av) S Rt)
    (kk : ∀ v S', Rt v S' → (S'.1 = S.1 ∧ S'.2.1 = S.2.1) ∧ Z X M (pc + 3) lv (v.toList ++ st) S') : Z X M pc lv (av.reverse ++ .ref (1000 + i) :: st) S := by
  obtain ⟨p, l, e, R, s, m, args, below, meth, c, E, n0, z0, Q⟩ := X
  intro ok cap H locs ls hP hS hl
  obtain ⟨hx, hb, hml, hown, hts, hr, hlk, hnm, hfr, hlo, hK, hKh, hsz⟩ := id ok
  have e1 : zad E (1000 + i) = E.2.2.2 i := by simp [zad, show ¬ 1000 + i < 1000 by omega]
  have hcode := lk.1 (.code M'.1 M'.2.1 M'.2.2.1 M'.2.2.2.1) (by simp)
  have hG : GoodIn zWs (wsV M.1.cls idx M'.1.cls M'.1 (Cond.code M'.1 M'.2.1 M'.2.2.1 M'.2.2.2.1 :: zWs)) := by
    intro w hw
    rcases List.mem_append.mp hw with hw | hw
    · have h2 := lk.1 w (by simp only [List.mem_cons, List.not_mem_nil, or_false] at hw ⊢; rcases hw with h | h | h | h <;> simp [h])
      exact ⟨h2, (zWs_good h2).2⟩
    · exact zGood M' hcode w hw
  have est : (av.reverse ++ .ref (1000 + i) :: st).map (zv E) = (av.map (zv E)).reverse ++ .ref (E.2.2.2 i) :: st.map (zv E) := by
    rw [← e1]
    simp [zv]
  rw [est]
  intro T hT X
  have hsize := zsize X hsz cap.1 (by rw [hT]; exact hP) (by rw [hT]; exact hS)
  rw [hT] at hsize
  refine z_after (E := E) (Rt := Rt) (va_runV (As := av.map (zv E)) (rest := st.map (zv E)) (cells := S.1 - n0) (slots := S.2.1 - z0) ⟨hx, hb, hml, hown, hts⟩ (hM l E) (cwV n hts hG rfl rfl rfl ⟨rfl, lk.2.1, lk.2.2.1, lk.2.2.2⟩ ⟨Nat.le_trans hD hfr, by show 8 + (M'.2.2.1 + 11) + 28 * M'.2.2.2.2 ≤ R.locals; omega⟩) ⟨zPc_blind E _ S, ?_, fun U hU hW => ⟨by rw [List.map_cons]; show (Value.ref (E.2.2.2 i) :: av.map (zv E)).toArray = (Value.ref (zad E (1000 + i)) :: av.map (zv E)).toArray; rw [e1], by rw [hU]; exact hsize, by rw [hU]; exact hP, zK.warm hW hK, by rw [hU]; exact zKh.moved hW.alike hKh hS.2.1⟩⟩ rfl (by rw [List.length_map]; exact hn) hl.1 rfl (lv_room (by rw [zcats]; exact Nat.le_of_ble_eq_true hst)) hd ⟨by omega, by omega⟩) hS (fun v S' H1 locs1 h1 h2 h3 => ?_) T hT X
  · rw [hC]
    exact vk_recv hKh.1 hi hS
  · obtain ⟨⟨a1, a2⟩, a3⟩ := kk v S' h1
    have a4 := a3 ok ⟨by omega, by omega, by omega, by omega, by omega⟩ H1 locs1 ls h2 h3 hl
    rw [a1, a2] at a4
    have e2 : (v.map (zv E)).toList ++ st.map (zv E) = (v.toList ++ st).map (zv E) := by cases v <;> simp
    rw [e2]
    exact a4
end ZR3
