/-- the words that every method is given: all of the tables that outlive a step -/
def zWs : List Cond := lw_tbl.filter goodWord
theorem zWs_at {w : Cond} (i : Nat) (h : lw_tbl[i]? = some w) (g : goodWord w = true) : w ∈ zWs := List.mem_filter.mpr ⟨List.mem_of_getElem? h, g⟩
theorem zWs_r (ws : List Cond) (ps : List Nat) (hp : ws = ps.filterMap (fun i => lw_tbl[i]?)) (g : ws.all goodWord = true) : ∀ w ∈ ws, w ∈ zWs := by
  intro w hw
  have h1 := List.all_eq_true.mp g w hw
  rw [hp] at hw
  obtain ⟨i, -, hi⟩ := List.mem_filterMap.mp hw
  exact zWs_at i hi h1
theorem zWs_good {w : Cond} (h : w ∈ zWs) : w ∈ lw_tbl ∧ ((w.onTables && w.keeps) = true ∨ ∃ ty, w = .arrayClass ty) := ⟨(List.mem_filter.mp h).1, good_of_word (List.mem_filter.mp h).2⟩
/-! ===== the abstract machine: the cells by their numbers (cell k lies at h0 + k), the ints of all cells as one function ===== -/
abbrev zE : Type := va_G × (Nat → ClassId) × Nat × (Nat → Nat)
abbrev zF : Type := Nat → Nat → Int32
abbrev zS : Type := Nat × Nat × (Nat → Nat × Nat) × (Nat → Nat → Option Nat) × zF
abbrev zMt : Type := MethodName × ByteArray × Nat × Option FieldType × Nat
abbrev zX : Type := Program × Launch × Env × Room × State × MethodId × Array Value × List Frame × Method × Code × zE × Nat × Nat × (State → Prop)
def zad (E : zE) (k : Nat) : Nat := if k < 1000 then E.2.2.1 + k else E.2.2.2 (k - 1000)
def zv (E : zE) : Value → Value
  | .ref k => .ref (zad E k)
  | v => v
def zft : Nat → List Bool
  | 0 => [true, true, true, false, false]
  | 1 => [true, false]
  | 2 => [false, false, false, true, true, true, true, true]
  | 3 => [true, true, false, false, false]
  | 4 => [true, false, false]
  | 5 => [true, false, false, false, false]
  | 6 => [true, true, true, true, true, true, false]
  | 7 => [false, false, true, true, true, true, true, true, false, true, false, false, false, false, false, false, false, false, false, false, false, true, true, true, false]
  | _ => []
def zfs (E : zE) (S : zS) (k c : Nat) : List Value := (List.range (zft c).length).map (fun j => if (zft c).getD j false = true then va_rf ((S.2.2.2.1 k j).map (zad E)) else .int (S.2.2.2.2 k j))
def zcel (E : zE) (S : zS) (k : Nat) : va_E :=
  if (S.2.2.1 k).1 < 8 then .inr ((S.2.2.1 k).1, zfs E S k (S.2.2.1 k).1)
  else if (S.2.2.1 k).1 < 10 then .inl (E.2.1 ((S.2.2.1 k).1 - 8), ((S.2.2.1 k).2, .inl (S.2.2.2.2 k)))
  else .inl (E.2.1 ((S.2.2.1 k).1 - 8), ((S.2.2.1 k).2, .inr (.inr (.inr (.inr (fun j => (S.2.2.2.1 k j).map (zad E)))))))
def zws (E : zE) (S : zS) : va_W := (List.range S.1).map (fun k => (E.2.2.1 + k, zcel E S k))
def zA (E : zE) : Nat → Prop := fun q => E.2.2.1 ≤ q
def ztys (E : zE) : List (ClassId × FieldType) := [(E.2.1 0, .int), (E.2.1 1, .boolean), (E.2.1 2, .object "LightSheets$Page"), (E.2.1 3, .object "LightSheets$Row")]
def zup {α : Type} (f : Nat → Nat → α) (k j : Nat) (v : α) : Nat → Nat → α := fun a b => if a = k ∧ b = j then v else f a b
theorem zcel_o {E : zE} {S : zS} {k c : Nat} (h : (S.2.2.1 k).1 = c) (hc : c < 8) : zcel E S k = .inr (c, zfs E S k c) := by
  subst h
  simp [zcel, hc]
theorem zcel_i {E : zE} {S : zS} {k c n : Nat} (h : S.2.2.1 k = (c + 8, n)) (hc : c < 2) : zcel E S k = .inl (E.2.1 c, (n, .inl (S.2.2.2.2 k))) := by
  simp [zcel, h, show c + 8 < 10 by omega]
theorem zcel_q {E : zE} {S : zS} {k c n : Nat} (h : S.2.2.1 k = (c + 10, n)) : zcel E S k = .inl (E.2.1 (c + 2), (n, .inr (.inr (.inr (.inr (fun j => (S.2.2.2.1 k j).map (zad E))))))) := by
  simp [zcel, h, show ¬ c + 10 < 8 by omega, show ¬ c + 10 < 10 by omega]
theorem zws_at {E : zE} {S : zS} {k : Nat} (hk : k < S.1) : (zws E S)[k]? = some (E.2.2.1 + k, zcel E S k) := by
  simp [zws, List.getElem?_map, List.getElem?_range hk]
theorem zws_get {E : zE} {S : zS} {i : Nat} {q : Nat × va_E} (h : (zws E S)[i]? = some q) : i < S.1 ∧ q = (E.2.2.1 + i, zcel E S i) := by
  by_cases hi : i < S.1
  · rw [zws_at hi] at h
    exact ⟨hi, (Option.some.inj h).symm⟩
  · have : (zws E S)[i]? = none := List.getElem?_eq_none (by simp [zws]; omega)
    rw [this] at h
    cases h
theorem zws_D (E : zE) (S : zS) : va_D (zA E) (zws E S) := by
  refine ⟨fun i j p q hi hj e => ?_, fun k q hk => ?_⟩
  · obtain ⟨-, rfl⟩ := zws_get hi
    obtain ⟨-, rfl⟩ := zws_get hj
    have e2 : E.2.2.1 + i = E.2.2.1 + j := e
    omega
  · obtain ⟨-, rfl⟩ := zws_get hk
    exact Nat.le_add_right _ _
theorem zws_set {E : zE} {S S' : zS} {k : Nat} {x : va_E} (hn : S'.1 = S.1) (hx : x = zcel E S' k) (ho : ∀ q, q ≠ k → zcel E S' q = zcel E S q) : (zws E S).set k (E.2.2.1 + k, x) = zws E S' := by
  subst hx
  apply List.ext_getElem?
  intro i
  rw [List.getElem?_set]
  by_cases h : k = i
  · subst h
    rw [if_pos rfl]
    by_cases hk : k < S.1
    · rw [if_pos (by simp [zws]; exact hk), zws_at (by rw [hn]; exact hk)]
    · rw [if_neg (by simp [zws]; omega), List.getElem?_eq_none (by simp [zws]; omega)]
  · rw [if_neg h]
    by_cases hi : i < S.1
    · rw [zws_at hi, zws_at (by rw [hn]; exact hi), ho i (Ne.symm h)]
    · rw [List.getElem?_eq_none (by simp [zws]; omega), List.getElem?_eq_none (by simp [zws]; omega)]
theorem zup_ne {α : Type} {f : Nat → Nat → α} {k j : Nat} {v : α} {q : Nat} (h : q ≠ k) : zup f k j v q = f q := by
  funext b
  simp [zup, h]
theorem zup_eq {α : Type} {f : Nat → Nat → α} {k j : Nat} {v : α} : zup f k j v k = fun b => if b = j then v else f k b := by
  funext b
  simp [zup]
def zset (S : zS) (k j : Nat) (v : Int32) : zS := (S.1, S.2.1, S.2.2.1, S.2.2.2.1, zup S.2.2.2.2 k j v)
def zsetr (S : zS) (k j : Nat) (v : Option Nat) : zS := (S.1, S.2.1, S.2.2.1, zup S.2.2.2.1 k j v, S.2.2.2.2)
theorem zcel_ne {E : zE} {S : zS} {k j : Nat} {v : Int32} {q : Nat} (h : q ≠ k) : zcel E (zset S k j v) q = zcel E S q := by
  simp only [zcel, zset, zfs, zup_ne h]
theorem zcel_neR {E : zE} {S : zS} {k j : Nat} {v : Option Nat} {q : Nat} (h : q ≠ k) : zcel E (zsetr S k j v) q = zcel E S q := by
  simp only [zcel, zsetr, zfs, zup_ne h]
/-- a field of ints is written -/
theorem zfs_set {E : zE} {S : zS} {k c j : Nat} {v : Int32} (hj : (zft c).getD j false = false) : (zfs E S k c).set j (.int v) = zfs E (zset S k j v) k c := by
  apply List.ext_getElem?
  intro i
  rw [List.getElem?_set]
  by_cases h : j = i
  · subst h
    rw [if_pos rfl]
    by_cases hk : j < (zft c).length
    · rw [if_pos (by simp [zfs]; exact hk)]
      simp only [zfs, List.getElem?_map, List.getElem?_range hk, Option.map_some, hj, zset, zup_eq]
      simp
    · rw [if_neg (by simp [zfs]; omega), List.getElem?_eq_none (by simp [zfs]; omega)]
  · rw [if_neg h]
    by_cases hi : i < (zft c).length
    · simp only [zfs, List.getElem?_map, List.getElem?_range hi, Option.map_some, zset, zup_eq, if_neg (Ne.symm h)]
    · rw [List.getElem?_eq_none (by simp [zfs]; omega), List.getElem?_eq_none (by simp [zfs]; omega)]
/-- a field of references is written -/
theorem zfs_setR {E : zE} {S : zS} {k c j : Nat} {v : Option Nat} (hj : (zft c).getD j false = true) : (zfs E S k c).set j (va_rf (v.map (zad E))) = zfs E (zsetr S k j v) k c := by
  apply List.ext_getElem?
  intro i
  rw [List.getElem?_set]
  by_cases h : j = i
  · subst h
    rw [if_pos rfl]
    by_cases hk : j < (zft c).length
    · rw [if_pos (by simp [zfs]; exact hk)]
      simp only [zfs, List.getElem?_map, List.getElem?_range hk, Option.map_some, hj, zsetr, zup_eq]
      simp
    · rw [if_neg (by simp [zfs]; omega), List.getElem?_eq_none (by simp [zfs]; omega)]
  · rw [if_neg h]
    by_cases hi : i < (zft c).length
    · simp only [zfs, List.getElem?_map, List.getElem?_range hi, Option.map_some, zsetr, zup_eq, if_neg (Ne.symm h)]
    · rw [List.getElem?_eq_none (by simp [zfs]; omega), List.getElem?_eq_none (by simp [zfs]; omega)]
theorem zfs_at {E : zE} {S : zS} {k c j : Nat} (hj : j < (zft c).length) : (zfs E S k c)[j]? = some (if (zft c).getD j false = true then va_rf ((S.2.2.2.1 k j).map (zad E)) else .int (S.2.2.2.2 k j)) := by
  simp only [zfs, List.getElem?_map, List.getElem?_range hj, Option.map_some]
/-- what is known of the tables: classes, arrays, nest mates, String constants -/
def zIsNest : Cond → Bool
  | .methodLinkNest .. => true
  | _ => false
def zNw : List Cond := lw_tbl.filter zIsNest
def zStr : List (String × Nat × String × Nat) := [("LightSheets$PageReader", 45, "law", 0), ("LightSheets$PageReader", 65, "letter", 1), ("LightSheets$PageReader", 87, "plain", 2), ("LightSheets$PageReader", 89, "bold", 3), ("LightSheets$PageReader", 91, "thin", 4), ("LightSheets$PageReader", 93, "mark", 5), ("LightSheets$PageReader", 95, "dry", 6), ("LightSheets$PageReader", 97, "sheet", 7)]
def zLen : List Nat := [3, 6, 5, 4, 4, 4, 3, 5]
def zByt : List (List Int32) := [[108, 97, 119], [108, 101, 116, 116, 101, 114], [112, 108, 97, 105, 110], [98, 111, 108, 100], [116, 104, 105, 110], [109, 97, 114, 107], [100, 114, 121], [115, 104, 101, 101, 116]]
def zK (E : zE) (U : State) : Prop := va_K E.1 vwCl (ztys E) U ∧ (∀ w ∈ zNw, va_Nw w U) ∧ (∀ r ∈ zStr, vk_R r.1 r.2.1 r.2.2.1 (E.2.2.2 r.2.2.2) U) ∧ va_AO "LightSheets$Page" U ∧ va_AO "LightSheets$Row" U
/-- what lies outside our cells and is never written -/
def zKh (E : zE) (U : State) (H : Heap) : Prop := vk_S 8 zLen zByt (fun i => E.2.2.2 i) (fun i => E.2.2.2 (100 + i)) (zA E) U H ∧ va_Z "java/lang/String" "COMPACT_STRINGS" "Z" (.int 1) (zA E) U H ∧ (∃ v, (v = .null ∨ v = .ref (E.2.2.2 300)) ∧ va_Z "jdk/internal/util/Preconditions" "SIOOBE_FORMATTER" "Ljava/util/function/BiFunction;" v (zA E) U H)
def zWp (E : zE) (S : zS) (U : State) : Prop := U.heap.size = E.2.2.1 + S.1 ∧ va_P E.1 vwCl (zws E S) U.heap ∧ zK E U ∧ zKh E U U.heap
theorem zNest_of {w : Cond} (h : zIsNest w = true) : ∃ a i x b, w = .methodLinkNest a i x b := by
  cases w <;> first | exact ⟨_, _, _, _, rfl⟩ | (simp [zIsNest] at h)
theorem zK.warm {E : zE} {s U : State} (hW : s.WarmedH U.vm) (h : zK E s) : zK E U := by
  obtain ⟨h1, h2, h3, h4, h5⟩ := h
  refine ⟨va_K.moved hW.alike h1, fun w hw => ?_, fun r hr => vk_R.warm hW (h3 r hr), va_AO.moved hW.alike h4, va_AO.moved hW.alike h5⟩
  have h6 := h2 w hw
  obtain ⟨a, i, x, b, rfl⟩ := zNest_of (List.mem_filter.mp hw).2
  exact va_Nw.warmM hW h6
theorem zK.same {E : zE} {u U : State} (hv : u.vm = U.vm) (h : zK E u) : zK E U := by
  obtain ⟨h1, h2, h3, h4, h5⟩ := h
  have ha : u.vm.Alike U.vm := by rw [hv]; exact Vm.Alike.refl _
  refine ⟨va_K.moved ha h1, fun w hw => ?_, fun r hr => vk_R.same hv.symm (h3 r hr), va_AO.moved ha h4, va_AO.moved ha h5⟩
  have h6 := h2 w hw
  obtain ⟨a, i, x, b, rfl⟩ := zNest_of (List.mem_filter.mp hw).2
  exact va_Nw.same rfl hv h6
theorem zKh.moved {E : zE} {u U : State} {H H1 : Heap} (hvm : u.vm.Alike U.vm) (h : zKh E u H) (hq : ∀ a : Nat, a < H.size → ¬ zA E a → H1[a]? = H[a]?) : zKh E U H1 := by
  obtain ⟨h1, h2, v, h3, h4⟩ := h
  exact ⟨(vk_S.moved hvm h1).kept hq, (va_Z.moved hvm h2).kept hq, v, h3, (va_Z.moved hvm h4).kept hq⟩
def zPc (E : zE) (av : List Value) (S : zS) : Array Value → State → Prop := va_Pc (av.map (zv E)) (fun U => zWp E S U)
def zQc (E : zE) (Rt : Option Value → zS → Prop) : Array Value → State → Outcome → State → Prop := fun _ st o t => (∃ v S', Rt v S' ∧ o = .returned (v.map (zv E)) ∧ va_P E.1 vwCl (zws E S') t.heap) ∧ va_F (zA E) st t
theorem zPc_blind (E : zE) (av : List Value) (S : zS) : FrameBlind (zPc E av S) := by
  intro a U g mk q
  obtain ⟨q1, q2, q3, q4, q5⟩ := q
  exact ⟨q1, q2, q3, zK.same (u := U) (U := U.calling g mk a) rfl q4, zKh.moved (u := U) (U := U.calling g mk a) (Vm.Alike.refl U.vm) q5 (fun _ _ _ => rfl)⟩
/-- a method's contract: from the cells S with these arguments it comes to an answer and cells with Rt -/
def zM (M : zMt) (mc ms : Nat) (av : List Value) (S : zS) (Rt : Option Value → zS → Prop) : Prop := ∀ (l : Launch) (E : zE), Met l M.1 (.code M.1 M.2.1 M.2.2.1 M.2.2.2.1 :: zWs) { frames := M.2.2.2.2, cells := mc, slots := ms, locals := 28 * M.2.2.2.2 } (zPc E av S) (zQc E Rt) mc ms (zA E)
def zOK (p : Program) (R : Room) (s : State) (m : MethodId) (args : Array Value) (meth : Method) (c : Code) (E : zE) (n0 : Nat) (M : zMt) : Prop := p.tables.exec = Jvm.exec ∧ c.code = M.2.1 ∧ c.maxLocals = M.2.2.1 ∧ s.vm.findClass M.1.cls = some m.cls ∧ (∀ w ∈ zWs, w.before args s = true) ∧ meth.sig.returnType = M.2.2.2.1 ∧ meth.locks = false ∧ (M.1.name = "<init>" → meth.name = M.1.name) ∧ M.2.2.2.2 ≤ R.frames ∧ 28 * M.2.2.2.2 ≤ R.locals ∧ zK E s ∧ zKh E s s.heap ∧ s.heap.size = E.2.2.1 + n0
/-- the machine at an instruction of M, with these locals, this stack and these cells, comes to an end -/
def Z (X : zX) (M : zMt) (pc : Nat) (lv : List (Nat × Value)) (st : List Value) (S : zS) : Prop :=
  match X with
  | (p, l, e, R, s, m, args, below, meth, c, E, n0, z0, Q) =>
    zOK p R s m args meth c E n0 M → (n0 ≤ S.1 ∧ z0 ≤ S.2.1 ∧ S.1 ≤ n0 + R.cells ∧ S.2.1 ≤ z0 + R.slots ∧ S.1 ≤ 1000) →
    ∀ (H : Heap) (locs : List Loc) (ls : Array Slot), va_P E.1 vwCl (zws E S) H → va_S (zA E) s.heap H locs → lv_has ls M.2.2.1 (lv.map (fun q => (q.1, zv E q.2))) →
    W p l e R s m args below meth c H locs (S.1 - n0) (S.2.1 - z0) Q (F0 m pc ls (st.map (zv E)))
def zR (X : zX) (n0 z0 mc ms : Nat) (Rt : Option Value → zS → Prop) : Prop :=
  match X with
  | (_, _, _, R, s, _, args, below, _, _, E, n1, z1, Q) => n1 = n0 ∧ z1 = z0 ∧ R.cells = mc ∧ R.slots = ms ∧ Q = MQ below (zQc E Rt) args s mc ms (zA E)
theorem zv_cat (E : zE) (v : Value) : (zv E v).category = v.category := by cases v <;> rfl
theorem zcats (E : zE) (st : List Value) : ((st.map (zv E)).map fun v => v.category).sum = (st.map fun v => v.category).sum := by
  rw [List.map_map]
  congr 1
  apply List.map_congr_left
  intro v _
  exact zv_cat E v
theorem zslen (E : zE) : ∀ av : List Value, (lg_sl (av.map (zv E))).length = (lg_sl av).length
  | [] => rfl
  | v :: av => by
    have ih := zslen E av
    simp only [lg_sl] at ih ⊢
    simp only [List.map_cons, List.flatMap_cons, List.length_append, ih, zv_cat]
    by_cases h : v.category = 2 <;> simp [h]
theorem zargs (E : zE) : ∀ (av : List Value) (i : Nat), lv_args i (av.map (zv E)) = (lv_args i av).map (fun q => (q.1, zv E q.2))
  | [], _ => rfl
  | v :: av, i => by
    simp only [List.map_cons, lv_args, zv_cat, zargs E av]
/-- a contract out of the walk of the body -/
theorem zM_of {M : zMt} {mc ms : Nat} {av : List Value} {S : zS} {Rt : Option Value → zS → Prop} (hy : plainName M.1.cls = true) (hlen : (lg_sl av).length ≤ M.2.2.1) (hS : S.1 ≤ 1000) (h : ∀ X, zR X S.1 S.2.1 mc ms Rt → Z X M 0 (lv_args 0 av) [] S) : zM M mc ms av S Rt := by
  intro l E
  refine Met.ofW (cc := M.2.1) (maxL := M.2.2.1) (ret := M.2.2.2.1) hy rfl ?_
  intro p e s m args below meth c s₁ B hml hv
  obtain ⟨rfl, hsz, hP, hK, hKh⟩ := hv
  have hts := atoms_spec (ws := Cond.code M.1 M.2.1 M.2.2.1 M.2.2.2.1 :: zWs) B.pre
  have hown : s.vm.findClass M.1.cls = some m.cls := findClass_of_methodNamed B.named
  have hin : meth.name = M.1.name := (name_of_methodNamed B.named B.method).1
  have key := h (p, l, e, { frames := M.2.2.2.2, cells := mc, slots := ms, locals := 28 * M.2.2.2.2 }, s, m, (av.map (zv E)).toArray, below, meth, c, E, S.1, S.2.1, MQ below (zQc E Rt) (av.map (zv E)).toArray s mc ms (zA E)) ⟨rfl, rfl, rfl, rfl, rfl⟩
  have hl := lv_entry (av.map (zv E)) (n := M.2.2.1) (by rw [zslen]; exact hlen)
  rw [zargs] at hl
  rw [lg_entry_eq]
  generalize (lg_sl (av.map (zv E)) ++ List.replicate (M.2.2.1 - (lg_sl (av.map (zv E))).length) Slot.unset).toArray = ls at hl ⊢
  have key2 := key ⟨B.exec, B.bytes, hml, hown, fun w hw => hts w (List.mem_cons_of_mem _ hw), B.returns, B.notSynchronized, fun _ => hin, Nat.le_refl _, Nat.le_refl _, hK, hKh, hsz⟩ ⟨Nat.le_refl _, Nat.le_refl _, Nat.le_add_right _ _, Nat.le_add_right _ _, hS⟩ s.heap [] ls hP va_S.rf hl
  rw [Nat.sub_self, Nat.sub_self] at key2
  exact key2
/-- how large the heap is, at any point of a walk -/
theorem zsize {p : Program} {l : Launch} {e : Env} {R : Room} {s : State} {m : MethodId} {args : Array Value} {below : List Frame} {meth : Method} {c : Code} {T : State} {locs : List Loc} {E : zE} {n0 : Nat} {S : zS} {slots : Nat} (X : Stand p l e R s m args below meth c T locs (S.1 - n0) slots) (hs : s.heap.size = E.2.2.1 + n0) (hn : n0 ≤ S.1) (hP : va_P E.1 vwCl (zws E S) T.heap) (hS : va_S (zA E) s.heap T.heap locs) : T.heap.size = E.2.2.1 + S.1 := by
  have h1 : T.heap.size ≤ s.heap.size + (S.1 - n0) := X.same.2.2.1
  have h2 := hS.1
  rcases Nat.lt_or_ge n0 S.1 with h | h
  · have h3 := (hP (S.1 - 1) _ (zws_at (by omega))).lt
    have h4 : E.2.2.1 + (S.1 - 1) < T.heap.size := h3
    omega
  · omega
theorem zad_lt {E : zE} {k : Nat} (h : k < 1000) : zad E k = E.2.2.1 + k := by simp [zad, h]
