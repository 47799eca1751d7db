/-! ===== the rules of cells, calls and ends ===== -/
def zCls (ci : Nat) (C : String) (T : u_T) (N : Nat) (ty : Nat → FieldType) : Prop := vwCl[ci]? = some (C, T, N) ∧ (∀ w ∈ u_ws C T N, w ∈ zWs) ∧ (∀ k, k < N → parseFieldDescriptor (T k).2.2.1 = some (ty k)) ∧ (∀ a, a < N → ∀ b, b < N → a ≠ b → (T a).2.1 ≠ (T b).2.1) ∧ N = (zft ci).length ∧ ci < 8
theorem zvq (E : zE) (r : Option Nat) : zv E (va_rf r) = va_rf (r.map (zad E)) := by cases r <;> rfl
section ZR2
variable {X : zX} {M : zMt} {pc : Nat} {lv lv' : List (Nat × Value)} {st : List Value} {S : zS}
theorem z_geti {ci : Nat} {C : String} {T : u_T} {N : Nat} {ty : Nat → FieldType} (hc : zCls ci C T N ty) {idx j k : Nat} (hd : decode M.2.1 pc = .ok (.getfield idx, 3)) (hw : Cond.fieldLink M.1.cls idx (T j).1 (T j).2.1 (T j).2.2.1 ∈ zWs) (hj : j < N) (hf : (zft ci).getD j false = false) (hk : k < S.1) (hs : (S.2.2.1 k).1 = ci) (kk : Z X M (pc + 3) lv (.int (S.2.2.2.2 k j) :: st) S) : Z X M pc lv (.ref k :: st) S := by
  obtain ⟨p, l, e, R, s, m, args, below, meth, c, E, n0, z0, Q⟩ := X
  intro ok cap H locs ls hP hS hl
  obtain ⟨hx, hb, hml, hown, hts, hr, hlk, hnm, hfr, hlo, hK, hKh, hsz⟩ := id ok
  have e1 : zad E k = E.2.2.1 + k := zad_lt (Nat.lt_of_lt_of_le hk cap.2.2.2.2)
  show W p l e R s m args below meth c H locs _ _ Q (F0 m pc ls (.ref (zad E k) :: st.map (zv E)))
  rw [e1]
  refine va_get (D := E.1) (cl := vwCl) (ws := zws E S) (tys := ztys E) hx hb hts hc.2.1 hown hK.1 hP k (by rw [zws_at hk, zcel_o hs hc.2.2.2.2.2]) hc.1 j hj (hts _ hw) (fun _ h => h) (v := .int (S.2.2.2.2 k j)) ?_ hd (kk ok cap H locs ls hP hS hl)
  rw [zfs_at (by rw [← hc.2.2.2.2.1]; exact hj), hf]
  rfl
theorem z_getr {ci : Nat} {C : String} {T : u_T} {N : Nat} {ty : Nat → FieldType} (hc : zCls ci C T N ty) {idx j k k2 : Nat} (hd : decode M.2.1 pc = .ok (.getfield idx, 3)) (hw : Cond.fieldLink M.1.cls idx (T j).1 (T j).2.1 (T j).2.2.1 ∈ zWs) (hj : j < N) (hf : (zft ci).getD j false = true) (hk : k < S.1) (hs : (S.2.2.1 k).1 = ci) (hr2 : S.2.2.2.1 k j = some k2) (kk : Z X M (pc + 3) lv (.ref k2 :: st) S) : Z X M pc lv (.ref k :: st) S := by
  obtain ⟨p, l, e, R, s, m, args, below, meth, c, E, n0, z0, Q⟩ := X
  intro ok cap H locs ls hP hS hl
  obtain ⟨hx, hb, hml, hown, hts, hr, hlk, hnm, hfr, hlo, hK, hKh, hsz⟩ := id ok
  have e1 : zad E k = E.2.2.1 + k := zad_lt (Nat.lt_of_lt_of_le hk cap.2.2.2.2)
  show W p l e R s m args below meth c H locs _ _ Q (F0 m pc ls (.ref (zad E k) :: st.map (zv E)))
  rw [e1]
  refine va_get (D := E.1) (cl := vwCl) (ws := zws E S) (tys := ztys E) hx hb hts hc.2.1 hown hK.1 hP k (by rw [zws_at hk, zcel_o hs hc.2.2.2.2.2]) hc.1 j hj (hts _ hw) (fun _ h => h) (v := .ref (zad E k2)) ?_ hd (kk ok cap H locs ls hP hS hl)
  rw [zfs_at (by rw [← hc.2.2.2.2.1]; exact hj), hf, hr2]
  rfl
theorem z_puti {ci : Nat} {C : String} {T : u_T} {N : Nat} {ty : Nat → FieldType} (hc : zCls ci C T N ty) {idx j k : Nat} {v : Int32} (hd : decode M.2.1 pc = .ok (.putfield idx, 3)) (hw : Cond.fieldLink M.1.cls idx (T j).1 (T j).2.1 (T j).2.2.1 ∈ zWs) (hj : j < N) (hf : (zft ci).getD j false = false) (hfin : (T j).2.2.2 = false) (hty : ty j = .int) (hk : k < S.1) (hs : (S.2.2.1 k).1 = ci) (kk : Z X M (pc + 3) lv st (zset S k j v)) : Z X M pc lv (.int v :: .ref k :: st) S := by
  obtain ⟨p, l, e, R, s, m, args, below, meth, c, E, n0, z0, Q⟩ := X
  intro ok cap H locs ls hP hS hl
  obtain ⟨hx, hb, hml, hown, hts, hr, hlk, hnm, hfr, hlo, hK, hKh, hsz⟩ := id ok
  have e1 : zad E k = E.2.2.1 + k := zad_lt (Nat.lt_of_lt_of_le hk cap.2.2.2.2)
  show W p l e R s m args below meth c H locs _ _ Q (F0 m pc ls (.int v :: .ref (zad E k) :: st.map (zv E)))
  rw [e1]
  have ew : (zws E S).set k (E.2.2.1 + k, .inr (ci, (zfs E S k ci).set j (.int v))) = zws E (zset S k j v) := zws_set rfl (by rw [zcel_o (S := zset S k j v) hs hc.2.2.2.2.2, zfs_set hf]) (fun q h => zcel_ne h)
  refine va_put (D := E.1) (cl := vwCl) (ws := zws E S) (tys := ztys E) (v := .int v) hx hb hts hc.2.1 ty hc.2.2.1 hc.2.2.2.1 hown hK.1 hP (zws_D E S) hS k (by rw [zws_at hk, zcel_o hs hc.2.2.2.2.2]) hc.1 j hj (hts _ hw) (fun _ h => h) hfin (hc.2.2.1 j hj) (by rw [hty]; rfl) (by rw [hty]; rfl) (by simp [zfs, ← hc.2.2.2.2.1]; exact hj) hd (fun H1 locs1 hP1 hD1 hS1 => ?_)
  rw [ew] at hP1
  exact kk ok cap H1 locs1 ls hP1 hS1 hl
theorem z_putF {ci : Nat} {C : String} {T : u_T} {N : Nat} {ty : Nat → FieldType} (hc : zCls ci C T N ty) {idx j k k2 : Nat} (hd : decode M.2.1 pc = .ok (.putfield idx, 3)) (hw : Cond.fieldLink M.1.cls idx (T j).1 (T j).2.1 (T j).2.2.1 ∈ zWs) (hj : j < N) (hf : (zft ci).getD j false = true) (hfin : (T j).2.2.2 = true) (hin : M.1.name = "<init>") (hdecl : (T j).1 = M.1.cls) (hty : narrow (ty j) (.ref k2) = .ref k2 ∧ ∀ a, fits (ty j) (.ref a) = true ∧ narrow (ty j) (.ref a) = .ref a) (hk : k < S.1) (hs : (S.2.2.1 k).1 = ci) (kk : Z X M (pc + 3) lv st (zsetr S k j (some k2))) : Z X M pc lv (.ref k2 :: .ref k :: st) S := by
  obtain ⟨p, l, e, R, s, m, args, below, meth, c, E, n0, z0, Q⟩ := X
  intro ok cap H locs ls hP hS hl
  obtain ⟨hx, hb, hml, hown, hts, hr, hlk, hnm, hfr, hlo, hK, hKh, hsz⟩ := id ok
  have e1 : zad E k = E.2.2.1 + k := zad_lt (Nat.lt_of_lt_of_le hk cap.2.2.2.2)
  show W p l e R s m args below meth c H locs _ _ Q (F0 m pc ls (.ref (zad E k2) :: .ref (zad E k) :: st.map (zv E)))
  rw [e1]
  have ew : (zws E S).set k (E.2.2.1 + k, .inr (ci, (zfs E S k ci).set j (.ref (zad E k2)))) = zws E (zsetr S k j (some k2)) := zws_set rfl (by rw [zcel_o (S := zsetr S k j (some k2)) hs hc.2.2.2.2.2, ← zfs_setR hf]; rfl) (fun q h => zcel_neR h)
  refine va_putF (D := E.1) (cl := vwCl) (ws := zws E S) (tys := ztys E) (v := .ref (zad E k2)) hx hb hts hc.2.1 ty hc.2.2.1 hc.2.2.2.1 hown hK.1 hP (zws_D E S) hS k (by rw [zws_at hk, zcel_o hs hc.2.2.2.2.2]) hc.1 j hj (hts _ hw) (fun _ h => h) hfin ((hnm hin).trans hin) hdecl (hc.2.2.1 j hj) (hty.2 _).2 (hty.2 _).1 (by simp [zfs, ← hc.2.2.2.2.1]; exact hj) hd (fun H1 locs1 hP1 hD1 hS1 => ?_)
  rw [ew] at hP1
  exact kk ok cap H1 locs1 ls hP1 hS1 hl
/-- arrays of ints -/
theorem z_iald {k n : Nat} {i : Int32} (hd : decode M.2.1 pc = .ok (.iaload, 1)) (hk : k < S.1) (hs : S.2.2.1 k = (8, n)) (hi : vp_in i n) (kk : Z X M (pc + 1) lv (.int (S.2.2.2.2 k i.toNatClampNeg) :: st) S) : Z X M pc lv (.int i :: .ref k :: st) S := by
  obtain ⟨p, l, e, R, s, m, args, below, meth, c, E, n0, z0, Q⟩ := X
  intro ok cap H locs ls hP hS hl
  obtain ⟨hx, hb, hml, hown, hts, hr, hlk, hnm, hfr, hlo, hK, hKh, hsz⟩ := id ok
  have e1 : zad E k = E.2.2.1 + k := zad_lt (Nat.lt_of_lt_of_le hk cap.2.2.2.2)
  show W p l e R s m args below meth c H locs _ _ Q (F0 m pc ls (.int i :: .ref (zad E k) :: st.map (zv E)))
  rw [e1]
  exact va_iald (D := E.1) (cl := vwCl) (ws := zws E S) (tys := ztys E) hx hb hK.1 hP k 0 (by rw [zws_at hk, zcel_i (c := 0) hs (by decide)]) rfl hi hd (kk ok cap H locs ls hP hS hl)
theorem z_iast {k n : Nat} {i v : Int32} (hd : decode M.2.1 pc = .ok (.iastore, 1)) (hk : k < S.1) (hs : S.2.2.1 k = (8, n)) (hi : vp_in i n) (kk : Z X M (pc + 1) lv st (zset S k i.toNatClampNeg v)) : Z X M pc lv (.int v :: .int i :: .ref k :: st) S := by
  obtain ⟨p, l, e, R, s, m, args, below, meth, c, E, n0, z0, Q⟩ := X
  intro ok cap H locs ls hP hS hl
  obtain ⟨hx, hb, hml, hown, hts, hr, hlk, hnm, hfr, hlo, hK, hKh, hsz⟩ := id ok
  have e1 : zad E k = E.2.2.1 + k := zad_lt (Nat.lt_of_lt_of_le hk cap.2.2.2.2)
  show W p l e R s m args below meth c H locs _ _ Q (F0 m pc ls (.int v :: .int i :: .ref (zad E k) :: st.map (zv E)))
  rw [e1]
  have ew : (zws E S).set k (E.2.2.1 + k, .inl (E.2.1 0, n, .inl (upd (S.2.2.2.2 k) i.toNatClampNeg v))) = zws E (zset S k i.toNatClampNeg v) := zws_set rfl (by
    rw [zcel_i (S := zset S k i.toNatClampNeg v) (c := 0) hs (by decide)]
    simp only [zset, zup_eq]
    congr 4) (fun q h => zcel_ne h)
  refine va_iast (D := E.1) (cl := vwCl) (ws := zws E S) (tys := ztys E) hx hb hK.1 hP (zws_D E S) hS k 0 (by rw [zws_at hk, zcel_i (c := 0) hs (by decide)]) rfl hi hd (fun H1 locs1 hP1 hD1 hS1 => ?_)
  rw [ew] at hP1
  exact kk ok cap H1 locs1 ls hP1 hS1 hl
/-- arrays of booleans -/
theorem z_zald {k n : Nat} {i : Int32} (hd : decode M.2.1 pc = .ok (.baload, 1)) (hk : k < S.1) (hs : S.2.2.1 k = (9, n)) (hi : vp_in i n) (kk : Z X M (pc + 1) lv (.int (S.2.2.2.2 k i.toNatClampNeg) :: st) S) : Z X M pc lv (.int i :: .ref k :: st) S := by
  obtain ⟨p, l, e, R, s, m, args, below, meth, c, E, n0, z0, Q⟩ := X
  intro ok cap H locs ls hP hS hl
  obtain ⟨hx, hb, hml, hown, hts, hr, hlk, hnm, hfr, hlo, hK, hKh, hsz⟩ := id ok
  have e1 : zad E k = E.2.2.1 + k := zad_lt (Nat.lt_of_lt_of_le hk cap.2.2.2.2)
  show W p l e R s m args below meth c H locs _ _ Q (F0 m pc ls (.int i :: .ref (zad E k) :: st.map (zv E)))
  rw [e1]
  exact va_zald (D := E.1) (cl := vwCl) (ws := zws E S) (tys := ztys E) hx hb hK.1 hP k 1 (by rw [zws_at hk, zcel_i (c := 1) hs (by decide)]) rfl hi hd (kk ok cap H locs ls hP hS hl)
theorem z_zast {k n : Nat} {i v : Int32} (hd : decode M.2.1 pc = .ok (.bastore, 1)) (hk : k < S.1) (hs : S.2.2.1 k = (9, n)) (hi : vp_in i n) (hv : vp_nar .boolean v = v) (kk : Z X M (pc + 1) lv st (zset S k i.toNatClampNeg v)) : Z X M pc lv (.int v :: .int i :: .ref k :: st) S := by
  obtain ⟨p, l, e, R, s, m, args, below, meth, c, E, n0, z0, Q⟩ := X
  intro ok cap H locs ls hP hS hl
  obtain ⟨hx, hb, hml, hown, hts, hr, hlk, hnm, hfr, hlo, hK, hKh, hsz⟩ := id ok
  have e1 : zad E k = E.2.2.1 + k := zad_lt (Nat.lt_of_lt_of_le hk cap.2.2.2.2)
  show W p l e R s m args below meth c H locs _ _ Q (F0 m pc ls (.int v :: .int i :: .ref (zad E k) :: st.map (zv E)))
  rw [e1]
  have ew : (zws E S).set k (E.2.2.1 + k, .inl (E.2.1 1, n, .inl (upd (S.2.2.2.2 k) i.toNatClampNeg (vp_nar .boolean v)))) = zws E (zset S k i.toNatClampNeg v) := zws_set rfl (by
    rw [zcel_i (S := zset S k i.toNatClampNeg v) (c := 1) hs (by decide), hv]
    simp only [zset, zup_eq]
    congr 4) (fun q h => zcel_ne h)
  refine va_zast (D := E.1) (cl := vwCl) (ws := zws E S) (tys := ztys E) hx hb hK.1 hP (zws_D E S) hS k 1 (by rw [zws_at hk, zcel_i (c := 1) hs (by decide)]) rfl hi hd (fun H1 locs1 hP1 hD1 hS1 => ?_)
  rw [ew] at hP1
  exact kk ok cap H1 locs1 ls hP1 hS1 hl
/-- arrays of references -/
theorem z_aald {k n cq : Nat} {i : Int32} {k2 : Nat} (hd : decode M.2.1 pc = .ok (.aaload, 1)) (hk : k < S.1) (hs : S.2.2.1 k = (cq + 10, n)) (hq : cq < 2) (hi : vp_in i n) (hr2 : S.2.2.2.1 k i.toNatClampNeg = some k2) (kk : Z X M (pc + 1) lv (.ref k2 :: st) S) : Z X M pc lv (.int i :: .ref k :: st) S := by
  obtain ⟨p, l, e, R, s, m, args, below, meth, c, E, n0, z0, Q⟩ := X
  intro ok cap H locs ls hP hS hl
  obtain ⟨hx, hb, hml, hown, hts, hr, hlk, hnm, hfr, hlo, hK, hKh, hsz⟩ := id ok
  have e1 : zad E k = E.2.2.1 + k := zad_lt (Nat.lt_of_lt_of_le hk cap.2.2.2.2)
  show W p l e R s m args below meth c H locs _ _ Q (F0 m pc ls (.int i :: .ref (zad E k) :: st.map (zv E)))
  rw [e1]
  have key : ∀ C : String, (ztys E)[cq + 2]? = some (E.2.1 (cq + 2), .object C) → W p l e R s m args below meth c H locs (S.1 - n0) (S.2.1 - z0) Q (F0 m pc ls (.int i :: .ref (E.2.2.1 + k) :: st.map (zv E))) := by
    intro C hC
    refine va_aldq (D := E.1) (cl := vwCl) (ws := zws E S) (tys := ztys E) hx hb hK.1 hP k (cq + 2) (by rw [zws_at hk, zcel_q hs]) hC hi hd ?_
    rw [hr2]
    exact kk ok cap H locs ls hP hS hl
  rcases (show cq = 0 ∨ cq = 1 by omega) with rfl | rfl
  · exact key _ rfl
  · exact key _ rfl
theorem z_alen {k n t : Nat} {v : Int32} (hd : decode M.2.1 pc = .ok (.arraylength, 1)) (hk : k < S.1) (hs : S.2.2.1 k = (t + 8, n)) (ht : t < 4) (hv : Int32.ofNat n = v) (kk : Z X M (pc + 1) lv (.int v :: st) S) : Z X M pc lv (.ref k :: st) S := by
  obtain ⟨p, l, e, R, s, m, args, below, meth, c, E, n0, z0, Q⟩ := X
  intro ok cap H locs ls hP hS hl
  obtain ⟨hx, hb, hml, hown, hts, hr, hlk, hnm, hfr, hlo, hK, hKh, hsz⟩ := id ok
  have e1 : zad E k = E.2.2.1 + k := zad_lt (Nat.lt_of_lt_of_le hk cap.2.2.2.2)
  show W p l e R s m args below meth c H locs _ _ Q (F0 m pc ls (.ref (zad E k) :: st.map (zv E)))
  rw [e1]
  rcases Nat.lt_or_ge t 2 with h2 | h2
  · have hq : (zws E S)[k]? = some (E.2.2.1 + k, .inl (E.2.1 t, (n, .inl (S.2.2.2.2 k)))) := by rw [zws_at hk, zcel_i (c := t) hs h2]
    rcases (show t = 0 ∨ t = 1 by omega) with rfl | rfl
    · exact va_alen (D := E.1) (cl := vwCl) (ws := zws E S) (tys := ztys E) hx hb hK.1 hP k 0 hq rfl hv hd (kk ok cap H locs ls hP hS hl)
    · exact va_alen (D := E.1) (cl := vwCl) (ws := zws E S) (tys := ztys E) hx hb hK.1 hP k 1 hq rfl hv hd (kk ok cap H locs ls hP hS hl)
  · obtain ⟨u, rfl⟩ : ∃ u, t = u + 2 := ⟨t - 2, by omega⟩
    have hq : (zws E S)[k]? = some (E.2.2.1 + k, .inl (E.2.1 (u + 2), (n, .inr (.inr (.inr (.inr (fun j => (S.2.2.2.1 k j).map (zad E)))))))) := by rw [zws_at hk, zcel_q (c := u) hs]
    rcases (show u = 0 ∨ u = 1 by omega) with rfl | rfl
    · exact va_alen (D := E.1) (cl := vwCl) (ws := zws E S) (tys := ztys E) hx hb hK.1 hP k 2 hq rfl hv hd (kk ok cap H locs ls hP hS hl)
    · exact va_alen (D := E.1) (cl := vwCl) (ws := zws E S) (tys := ztys E) hx hb hK.1 hP k 3 hq rfl hv hd (kk ok cap H locs ls hP hS hl)
/-- the ends -/
theorem z_iret {n1 z1 mc ms : Nat} {Rt : Option Value → zS → Prop} {v : Int32} {ty : FieldType} (hR : zR X n1 z1 mc ms Rt) (hd : decode M.2.1 pc = .ok (.ireturn, 1)) (hty : M.2.2.2.1 = some ty) (hv : narrow ty (.int v) = .int v) (h : Rt (some (.int v)) S) : Z X M pc lv [.int v] S := by
  obtain ⟨p, l, e, R, s, m, args, below, meth, c, E, n0, z0, Q⟩ := X
  intro ok cap H locs ls hP hS hl
  obtain ⟨hx, hb, hml, hown, hts, hr, hlk, hnm, hfr, hlo, hK, hKh, hsz⟩ := id ok
  obtain ⟨rfl, rfl, rfl, rfl, rfl⟩ := hR
  refine W.widen (k := R.cells) (n := R.slots) (by omega) (by omega) ?_
  exact W.zret (v := v) hx hb (hr.trans hty) hv (fun t ht hW => ⟨⟨some (.int v), S, h, rfl, by rw [ht]; exact hP⟩, hS.F ht⟩) hS.2.2 hd
theorem z_vret {n1 z1 mc ms : Nat} {Rt : Option Value → zS → Prop} (hR : zR X n1 z1 mc ms Rt) (hd : decode M.2.1 pc = .ok (.return_, 1)) (hty : M.2.2.2.1 = none) (h : Rt none S) : Z X M pc lv [] S := by
  obtain ⟨p, l, e, R, s, m, args, below, meth, c, E, n0, z0, Q⟩ := X
  intro ok cap H locs ls hP hS hl
  obtain ⟨hx, hb, hml, hown, hts, hr, hlk, hnm, hfr, hlo, hK, hKh, hsz⟩ := id ok
  obtain ⟨rfl, rfl, rfl, rfl, rfl⟩ := hR
  refine W.widen (k := R.cells) (n := R.slots) (by omega) (by omega) ?_
  exact W.vret hx hb (hr.trans hty) (fun t ht hW => ⟨⟨none, S, h, rfl, by rw [ht]; exact hP⟩, hS.F ht⟩) hS.2.2 hd
theorem z_lret {n1 z1 mc ms : Nat} {Rt : Option Value → zS → Prop} {v : Int64} (hR : zR X n1 z1 mc ms Rt) (hd : decode M.2.1 pc = .ok (.lreturn, 1)) (hty : M.2.2.2.1 = some .long) (h : Rt (some (.long v)) S) : Z X M pc lv [.long v] S := by
  obtain ⟨p, l, e, R, s, m, args, below, meth, c, E, n0, z0, Q⟩ := X
  intro ok cap H locs ls hP hS hl
  obtain ⟨hx, hb, hml, hown, hts, hr, hlk, hnm, hfr, hlo, hK, hKh, hsz⟩ := id ok
  obtain ⟨rfl, rfl, rfl, rfl, rfl⟩ := hR
  refine W.widen (k := R.cells) (n := R.slots) (by omega) (by omega) ?_
  exact W.lret hx hb (hr.trans hty) (fun t ht hW => ⟨⟨some (.long v), S, h, rfl, by rw [ht]; exact hP⟩, hS.F ht⟩) hS.2.2 hd
theorem z_aret {n1 z1 mc ms : Nat} {Rt : Option Value → zS → Prop} {r : Option Nat} {C : String} (hR : zR X n1 z1 mc ms Rt) (hd : decode M.2.1 pc = .ok (.areturn, 1)) (hty : M.2.2.2.1 = some (.object C)) (h : Rt (some (va_rf r)) S) : Z X M pc lv [va_rf r] S := by
  obtain ⟨p, l, e, R, s, m, args, below, meth, c, E, n0, z0, Q⟩ := X
  intro ok cap H locs ls hP hS hl
  obtain ⟨hx, hb, hml, hown, hts, hr, hlk, hnm, hfr, hlo, hK, hKh, hsz⟩ := id ok
  obtain ⟨rfl, rfl, rfl, rfl, rfl⟩ := hR
  refine W.widen (k := R.cells) (n := R.slots) (by omega) (by omega) ?_
  show W p l e R s m args below meth c H locs _ _ _ (F0 m pc ls [zv E (va_rf r)])
  rw [zvq]
  refine W.aret (v := va_rf (r.map (zad E))) hx hb (hr.trans hty) (Or.inl ⟨C, rfl⟩) (va_rf_or _) (fun t ht hW => ⟨⟨some (va_rf r), S, h, by rw [Option.map_some, zvq], by rw [ht]; exact hP⟩, hS.F ht⟩) hS.2.2 hd
/-- behind a call -/
theorem z_after {p : Program} {l : Launch} {e : Env} {R : Room} {s : State} {m : MethodId} {args : Array Value} {below : List Frame} {meth : Method} {c : Code} {H : Heap} {locs : List Loc} {cells slots mc ms : Nat} {Q : State → Prop} {ls : Array Slot} {st0 rest : List Value} {a : Array Value} {E : zE} {Rt : Option Value → zS → Prop}
    (hr : va_Run p l e R s m args below meth c H locs cells slots mc ms (F0 m pc ls st0) rest (zQc E Rt a) (zA E)) (hS : va_S (zA E) s.heap H locs)
    (kk : ∀ v S' H1 locs1, Rt v S' → va_P E.1 vwCl (zws E S') H1 → va_S (zA E) s.heap H1 locs1 → W p l e R s m args below meth c H1 locs1 (cells + mc) (slots + ms) Q (F0 m (pc + 3) ls ((v.map (zv E)).toList ++ rest))) : W p l e R s m args below meth c H locs cells slots Q (F0 m pc ls st0) := by
  intro T hT X
  obtain ⟨v, st₀, t, T', L, h0, X', hL, e1, e2, ⟨⟨u, S', hp, hv, hb⟩, hz, hk⟩, st⟩ := hr T hT X
  cases hv
  rw [h0] at hz hk
  obtain ⟨t2, a1, b1⟩ := kk u S' T'.heap (locs ++ L) hp (by rw [e1]; exact hb)
    ⟨Nat.le_trans hS.1 (by rw [e1]; exact hz), fun q h1 h2 => by rw [e1, hk q (Nat.lt_of_lt_of_le h1 hS.1) h2]; exact hS.2.1 q h1 h2, fun q hq => by
      rcases List.mem_append.mp hq with h | h
      · exact hS.2.2 q h
      · exact hL q h⟩ T' rfl X'
  exact ⟨t2, st t2 a1, b1⟩
/-- what is asked of the tables at a call -/
def zLkV (own : String) (idx : Nat) (M : zMt) (n : Nat) : Prop := (∀ w ∈ [Cond.methodLink own idx M.1, .instanceMethod M.1, .selects M.1.cls M.1 M.1, .initialized M.1.cls, .code M.1 M.2.1 M.2.2.1 M.2.2.2.1], w ∈ zWs) ∧ (M.1.cls ≠ "java/lang/invoke/MethodHandle" ∧ M.1.cls ≠ "java/lang/invoke/VarHandle" ∧ (parseMethodDescriptor M.1.desc).map (fun d => d.parameters.length) = some n)
def zLkS (own : String) (idx : Nat) (M : zMt) (n : Nat) : Prop := (∀ w ∈ [Cond.methodLink own idx M.1, .static M.1, .initialized M.1.cls, .code M.1 M.2.1 M.2.2.1 M.2.2.2.1], w ∈ zWs) ∧ (M.1.cls ≠ "java/lang/invoke/MethodHandle" ∧ M.1.cls ≠ "java/lang/invoke/VarHandle" ∧ (parseMethodDescriptor M.1.desc).map (fun d => d.parameters.length) = some n)
def zLkN (own : String) (idx : Nat) (M : zMt) (n : Nat) : Prop := (Cond.methodLinkNest own idx M.1 "LightSheets" ∈ zNw) ∧ (∀ w ∈ [.static M.1, .initialized M.1.cls, .code M.1 M.2.1 M.2.2.1 M.2.2.2.1], w ∈ zWs) ∧ (M.1.cls ≠ "java/lang/invoke/MethodHandle" ∧ M.1.cls ≠ "java/lang/invoke/VarHandle" ∧ (parseMethodDescriptor M.1.desc).map (fun d => d.parameters.length) = some n)
def zLkI (own : String) (idx : Nat) (M : zMt) (n : Nat) : Prop := (∀ w ∈ [Cond.methodLink own idx M.1, .instanceMethod M.1, .initialized M.1.cls, .code M.1 M.2.1 M.2.2.1 none], w ∈ zWs) ∧ M.1.name = "<init>" ∧ M.2.2.2.1 = none ∧ (M.1.cls ≠ "java/lang/invoke/MethodHandle" ∧ M.1.cls ≠ "java/lang/invoke/VarHandle" ∧ (parseMethodDescriptor M.1.desc).map (fun d => d.parameters.length) = some n)
def zLkJ (own : String) (idx : Nat) (M : zMt) (n : Nat) : Prop := (Cond.methodLinkNest own idx M.1 "LightSheets" ∈ zNw) ∧ (∀ w ∈ [.instanceMethod M.1, .initialized M.1.cls, .code M.1 M.2.1 M.2.2.1 none], w ∈ zWs) ∧ M.1.name = "<init>" ∧ M.2.2.2.1 = none ∧ (M.1.cls ≠ "java/lang/invoke/MethodHandle" ∧ M.1.cls ≠ "java/lang/invoke/VarHandle" ∧ (parseMethodDescriptor M.1.desc).map (fun d => d.parameters.length) = some n)
theorem zGood (M : zMt) (h : Cond.code M.1 M.2.1 M.2.2.1 M.2.2.2.1 ∈ zWs) : GoodIn zWs (Cond.code M.1 M.2.1 M.2.2.1 M.2.2.2.1 :: zWs) := by
  intro w hw
  rcases List.mem_cons.mp hw with rfl | hw
  · exact ⟨h, (zWs_good h).2⟩
  · exact ⟨hw, (zWs_good hw).2⟩
theorem z_callV {idx n k ci : Nat} {C : String} {T : u_T} {N : Nat} {ty : Nat → FieldType} {M' : zMt} {av : List Value} {Rt : Option Value → zS → Prop} (hc : zCls ci C T N ty) (hC : M'.1.cls = C) (hd : decode M.2.1 pc = .ok (.invokevirtual idx, 3)) (lk : zLkV M.1.cls idx M' n) (hn : av.length = n) (hD : M'.2.2.2.2 + 1 ≤ M.2.2.2.2) (hL : M'.2.2.1 ≤ 9) (hk : k < S.1) (hs : (S.2.2.1 k).1 = ci) (hst : Nat.ble ((st.map fun v => v.category).sum) 8 = true) (hM : zM M' 0 0 (.ref k :: av) S Rt)
    (kk : ∀ v S', Rt v S' → (S'.1 = S.1 ∧ S'.2.1 = S.2.1) ∧ Z X M (pc + 3) lv (v.toList ++ st) S') : Z X M pc lv (av.reverse ++ .ref k :: st) S := by
  obtain ⟨p, l, e, R, s, m, args, below, meth, c, E, n0, z0, Q⟩ := X
  intro ok cap H locs ls hP hS hl
  obtain ⟨hx, hb, hml, hown, hts, hr, hlk, hnm, hfr, hlo, hK, hKh, hsz⟩ := id ok
  have e1 : zad E k = E.2.2.1 + k := zad_lt (Nat.lt_of_lt_of_le hk cap.2.2.2.2)
  have hcode := lk.1 (.code M'.1 M'.2.1 M'.2.2.1 M'.2.2.2.1) (by simp)
  have hG : GoodIn zWs (wsV M.1.cls idx M'.1.cls M'.1 (Cond.code M'.1 M'.2.1 M'.2.2.1 M'.2.2.2.1 :: zWs)) := by
    intro w hw
    rcases List.mem_append.mp hw with hw | hw
    · have h2 := lk.1 w (by simp only [List.mem_cons, List.not_mem_nil, or_false] at hw ⊢; rcases hw with h | h | h | h <;> simp [h])
      exact ⟨h2, (zWs_good h2).2⟩
    · exact zGood M' hcode w hw
  have est : (av.reverse ++ .ref k :: st).map (zv E) = (av.map (zv E)).reverse ++ .ref (E.2.2.1 + k) :: st.map (zv E) := by
    rw [← e1]
    simp [zv]
  rw [est]
  intro T hT X
  have hsize := zsize X hsz cap.1 (by rw [hT]; exact hP) (by rw [hT]; exact hS)
  rw [hT] at hsize
  refine z_after (E := E) (Rt := Rt) (va_runV (As := av.map (zv E)) (rest := st.map (zv E)) (cells := S.1 - n0) (slots := S.2.1 - z0) ⟨hx, hb, hml, hown, hts⟩ (hM l E) (cwV n hts hG rfl rfl rfl ⟨rfl, lk.2.1, lk.2.2.1, lk.2.2.2⟩ ⟨Nat.le_trans hD hfr, by show 8 + (M'.2.2.1 + 11) + 28 * M'.2.2.2.2 ≤ R.locals; omega⟩) ⟨zPc_blind E _ S, ?_, fun U hU hW => ⟨by rw [List.map_cons]; show (Value.ref (E.2.2.1 + k) :: av.map (zv E)).toArray = (Value.ref (zad E k) :: av.map (zv E)).toArray; rw [e1], by rw [hU]; exact hsize, by rw [hU]; exact hP, zK.warm hW hK, by rw [hU]; exact zKh.moved hW.alike hKh hS.2.1⟩⟩ rfl (by rw [List.length_map]; exact hn) hl.1 rfl (lv_room (by rw [zcats]; exact Nat.le_of_ble_eq_true hst)) hd ⟨by omega, by omega⟩) hS (fun v S' H1 locs1 h1 h2 h3 => ?_) T hT X
  · obtain ⟨cell, g1, g2, g3⟩ := va_recv hK.1 hP hc.1 (q0 := k) (a := E.2.2.1 + k) (fs := zfs E S k ci) (by rw [zws_at hk, zcel_o hs hc.2.2.2.2.2])
    exact ⟨cell, g1, g2, by rw [hC]; exact g3⟩
  · obtain ⟨⟨a1, a2⟩, a3⟩ := kk v S' h1
    have a4 := a3 ok ⟨by omega, by omega, by omega, by omega, by omega⟩ H1 locs1 ls h2 h3 hl
    rw [a1, a2] at a4
    have e2 : (v.map (zv E)).toList ++ st.map (zv E) = (v.toList ++ st).map (zv E) := by cases v <;> simp
    rw [e2]
    exact a4
/-- a static method, by an ordinary link or a nest mate's -/
theorem z_callS {idx n : Nat} {M' : zMt} {av : List Value} {Rt : Option Value → zS → Prop} (hd : decode M.2.1 pc = .ok (.invokestatic idx, 3)) (lk : zLkS M.1.cls idx M' n ∨ zLkN M.1.cls idx M' n) (hn : av.length = n) (hD : M'.2.2.2.2 + 1 ≤ M.2.2.2.2) (hL : M'.2.2.1 ≤ 9) (hst : Nat.ble ((st.map fun v => v.category).sum) 8 = true) (hM : zM M' 0 0 av S Rt)
    (kk : ∀ v S', Rt v S' → (S'.1 = S.1 ∧ S'.2.1 = S.2.1) ∧ Z X M (pc + 3) lv (v.toList ++ st) S') : Z X M pc lv (av.reverse ++ st) S := by
  obtain ⟨p, l, e, R, s, m, args, below, meth, c, E, n0, z0, Q⟩ := X
  intro ok cap H locs ls hP hS hl
  obtain ⟨hx, hb, hml, hown, hts, hr, hlk, hnm, hfr, hlo, hK, hKh, hsz⟩ := id ok
  have est : (av.reverse ++ st).map (zv E) = (av.map (zv E)).reverse ++ st.map (zv E) := by simp
  rw [est]
  intro T hT X
  have hsize := zsize X hsz cap.1 (by rw [hT]; exact hP) (by rw [hT]; exact hS)
  rw [hT] at hsize
  have hpre : PreS s H (zPc E av S) (av.map (zv E)) := ⟨zPc_blind E _ S, fun U hU hW => ⟨rfl, by rw [hU]; exact hsize, by rw [hU]; exact hP, zK.warm hW hK, by rw [hU]; exact zKh.moved hW.alike hKh hS.2.1⟩⟩
  have hroom : ({ frames := M'.2.2.2.2, cells := 0, slots := 0, locals := 28 * M'.2.2.2.2 } : Room).frames + 1 ≤ R.frames ∧ 8 + (M'.2.2.1 + 11) + ({ frames := M'.2.2.2.2, cells := 0, slots := 0, locals := 28 * M'.2.2.2.2 } : Room).locals ≤ R.locals := ⟨Nat.le_trans hD hfr, by show 8 + (M'.2.2.1 + 11) + 28 * M'.2.2.2.2 ≤ R.locals; omega⟩
  have hrun : va_Run p l e R s m args below meth c H locs (S.1 - n0) (S.2.1 - z0) 0 0 (F0 m pc ls ((av.map (zv E)).reverse ++ st.map (zv E))) (st.map (zv E)) (zQc E Rt (av.map (zv E)).toArray) (zA E) := by
    rcases lk with lk | lk
    · have hcode := lk.1 (.code M'.1 M'.2.1 M'.2.2.1 M'.2.2.2.1) (by simp)
      have hG : GoodIn zWs (va_wsS M.1.cls idx M'.1 (Cond.code M'.1 M'.2.1 M'.2.2.1 M'.2.2.2.1 :: zWs)) := by
        intro w hw
        rcases List.mem_append.mp hw with hw | hw
        · have h2 := lk.1 w (by simp only [List.mem_cons, List.not_mem_nil, or_false] at hw ⊢; rcases hw with h | h | h <;> simp [h])
          exact ⟨h2, (zWs_good h2).2⟩
        · exact zGood M' hcode w hw
      exact va_runS (As := av.map (zv E)) (rest := st.map (zv E)) ⟨hx, hb, hml, hown, hts⟩ (hM l E) (va_cwS n hts hG rfl rfl rfl lk.2 hroom) hpre rfl (by rw [List.length_map]; exact hn) hl.1 rfl (lv_room (by rw [zcats]; exact Nat.le_of_ble_eq_true hst)) hd ⟨by omega, by omega⟩
    · have hcode := lk.2.1 (.code M'.1 M'.2.1 M'.2.2.1 M'.2.2.2.1) (by simp)
      exact va_runSN (As := av.map (zv E)) (rest := st.map (zv E)) ⟨hx, hb, hml, hown, hts⟩ (hM l E) ⟨va_cnB n hts (zGood M' hcode) rfl rfl rfl (hK.2.1 _ lk.1) (hts _ (lk.2.1 _ (by simp))) lk.2.2 hroom, hts _ (lk.2.1 _ (by simp)), trivial⟩ hpre rfl (by rw [List.length_map]; exact hn) hl.1 rfl (lv_room (by rw [zcats]; exact Nat.le_of_ble_eq_true hst)) hd ⟨by omega, by omega⟩
  refine z_after (E := E) (Rt := Rt) hrun hS (fun v S' H1 locs1 h1 h2 h3 => ?_) T hT X
  obtain ⟨⟨a1, a2⟩, a3⟩ := kk v S' h1
  have a4 := a3 ok ⟨by omega, by omega, by omega, by omega, by omega⟩ H1 locs1 ls h2 h3 hl
  rw [a1, a2] at a4
  have e2 : (v.map (zv E)).toList ++ st.map (zv E) = (v.toList ++ st).map (zv E) := by cases v <;> simp
  rw [e2]
  exact a4
end ZR2
