/-! ===== the canonical world: what both constructors make, cell by cell ===== -/
def zSHl : List (Nat × Nat) := [(6, 0), (11, 8), (10, 2), (3, 0), (5, 0), (8, 400), (2, 0), (8, 8), (8, 8), (8, 8), (8, 9), (8, 9), (2, 0), (8, 8), (8, 8), (8, 8), (8, 9), (8, 9), (0, 0), (8, 24), (8, 24), (8, 24), (1, 0), (8, 16), (4, 0), (8, 40), (4, 0), (8, 40), (4, 0), (8, 40), (4, 0), (8, 40), (4, 0), (8, 40), (4, 0), (8, 40), (4, 0), (8, 40), (4, 0), (8, 40), (2, 0), (8, 8), (8, 8), (8, 8), (8, 9), (8, 9), (2, 0), (8, 8), (8, 8), (8, 8), (8, 9), (8, 9), (7, 0), (8, 8), (8, 8), (8, 320), (8, 37), (8, 37), (8, 888), (8, 400), (9, 2), (8, 74), (8, 16)]
def zRFl : List (List (Option Nat)) := [[some 1, some 2, some 3, some 12, some 18, some 22, none], [some 24, some 26, some 28, some 30, some 32, some 34, some 36, some 38], [some 40, some 46], [some 4, some 6, none, none, none], [some 5, none, none, none, none], [], [none, none, none, some 7, some 8, some 9, some 10, some 11], [], [], [], [], [], [none, none, none, some 13, some 14, some 15, some 16, some 17], [], [], [], [], [], [some 19, some 20, some 21, none, none], [], [], [], [some 23, none], [], [some 25, none, none], [], [some 27, none, none], [], [some 29, none, none], [], [some 31, none, none], [], [some 33, none, none], [], [some 35, none, none], [], [some 37, none, none], [], [some 39, none, none], [], [none, none, none, some 41, some 42, some 43, some 44, some 45], [], [], [], [], [], [none, none, none, some 47, some 48, some 49, some 50, some 51], [], [], [], [], [], [none, none, some 53, some 54, some 55, some 56, some 57, some 58, none, some 59, none, none, none, none, none, none, none, none, none, none, none, some 60, some 61, some 62, none], [], [], [], [], [], [], [], [], [], []]
def zSH (k : Nat) : Nat × Nat := zSHl.getD k (0, 0)
def zRF (k j : Nat) : Option Nat := (zRFl.getD k []).getD j none
abbrev zC (f : zF) : zS := (63, 2881, zSH, zRF, f)
def zRi (K : Int32 → zF → Prop) : Option Value → zS → Prop := fun v S' => ∃ r f', v = some (.int r) ∧ S' = zC f' ∧ K r f'
def zRv (K : zF → Prop) : Option Value → zS → Prop := fun v S' => ∃ f', v = none ∧ S' = zC f' ∧ K f'
def zRq (K : Option Nat → zF → Prop) : Option Value → zS → Prop := fun v S' => ∃ r f', v = some (va_rf r) ∧ S' = zC f' ∧ K r f'
def zRl (K : Int64 → zF → Prop) : Option Value → zS → Prop := fun v S' => ∃ r f', v = some (.long r) ∧ S' = zC f' ∧ K r f'
/-- a call of M with these arguments over the canonical world comes to an answer with K -/
def ci (M : zMt) (av : List Value) (f : zF) (K : Int32 → zF → Prop) : Prop := zM M 0 0 av (zC f) (zRi K)
def cv (M : zMt) (av : List Value) (f : zF) (K : zF → Prop) : Prop := zM M 0 0 av (zC f) (zRv K)
def cq (M : zMt) (av : List Value) (f : zF) (K : Option Nat → zF → Prop) : Prop := zM M 0 0 av (zC f) (zRq K)
def cl (M : zMt) (av : List Value) (f : zF) (K : Int64 → zF → Prop) : Prop := zM M 0 0 av (zC f) (zRl K)
abbrev kR (X : zX) (Rt : Option Value → zS → Prop) : Prop := zR X 63 2881 0 0 Rt
theorem ci_of {M : zMt} {av : List Value} {f : zF} {K : Int32 → zF → Prop} (hy : plainName M.1.cls = true) (hlen : (lg_sl av).length ≤ M.2.2.1) (h : ∀ X, kR X (zRi K) → Z X M 0 (lv_args 0 av) [] (zC f)) : ci M av f K := zM_of hy hlen (by show 63 ≤ 1000; decide) h
theorem cv_of {M : zMt} {av : List Value} {f : zF} {K : zF → Prop} (hy : plainName M.1.cls = true) (hlen : (lg_sl av).length ≤ M.2.2.1) (h : ∀ X, kR X (zRv K) → Z X M 0 (lv_args 0 av) [] (zC f)) : cv M av f K := zM_of hy hlen (by show 63 ≤ 1000; decide) h
theorem cq_of {M : zMt} {av : List Value} {f : zF} {K : Option Nat → zF → Prop} (hy : plainName M.1.cls = true) (hlen : (lg_sl av).length ≤ M.2.2.1) (h : ∀ X, kR X (zRq K) → Z X M 0 (lv_args 0 av) [] (zC f)) : cq M av f K := zM_of hy hlen (by show 63 ≤ 1000; decide) h
theorem cl_of {M : zMt} {av : List Value} {f : zF} {K : Int64 → zF → Prop} (hy : plainName M.1.cls = true) (hlen : (lg_sl av).length ≤ M.2.2.1) (h : ∀ X, kR X (zRl K) → Z X M 0 (lv_args 0 av) [] (zC f)) : cl M av f K := zM_of hy hlen (by show 63 ≤ 1000; decide) h
def isPage (k : Nat) : Prop := k = 6 ∨ k = 12 ∨ k = 40 ∨ k = 46
def isRow (k : Nat) : Prop := k = 24 ∨ k = 26 ∨ k = 28 ∨ k = 30 ∨ k = 32 ∨ k = 34 ∨ k = 36 ∨ k = 38
theorem pg_lt {k : Nat} (h : isPage k) : k < 63 := by rcases h with rfl | rfl | rfl | rfl <;> decide
theorem pg_sh {k : Nat} (h : isPage k) : (zSH k).1 = 2 := by rcases h with rfl | rfl | rfl | rfl <;> rfl
theorem pg_lt1 {k : Nat} (h : isPage k) : k + 1 < 63 := by rcases h with rfl | rfl | rfl | rfl <;> decide
theorem pg_sh1 {k : Nat} (h : isPage k) : zSH (k + 1) = (8, 8) := by rcases h with rfl | rfl | rfl | rfl <;> rfl
theorem pg_rf1 {k : Nat} (h : isPage k) : zRF k 3 = some (k + 1) := by rcases h with rfl | rfl | rfl | rfl <;> rfl
theorem pg_lt2 {k : Nat} (h : isPage k) : k + 2 < 63 := by rcases h with rfl | rfl | rfl | rfl <;> decide
theorem pg_sh2 {k : Nat} (h : isPage k) : zSH (k + 2) = (8, 8) := by rcases h with rfl | rfl | rfl | rfl <;> rfl
theorem pg_rf2 {k : Nat} (h : isPage k) : zRF k 4 = some (k + 2) := by rcases h with rfl | rfl | rfl | rfl <;> rfl
theorem pg_lt3 {k : Nat} (h : isPage k) : k + 3 < 63 := by rcases h with rfl | rfl | rfl | rfl <;> decide
theorem pg_sh3 {k : Nat} (h : isPage k) : zSH (k + 3) = (8, 8) := by rcases h with rfl | rfl | rfl | rfl <;> rfl
theorem pg_rf3 {k : Nat} (h : isPage k) : zRF k 5 = some (k + 3) := by rcases h with rfl | rfl | rfl | rfl <;> rfl
theorem pg_lt4 {k : Nat} (h : isPage k) : k + 4 < 63 := by rcases h with rfl | rfl | rfl | rfl <;> decide
theorem pg_sh4 {k : Nat} (h : isPage k) : zSH (k + 4) = (8, 9) := by rcases h with rfl | rfl | rfl | rfl <;> rfl
theorem pg_rf4 {k : Nat} (h : isPage k) : zRF k 6 = some (k + 4) := by rcases h with rfl | rfl | rfl | rfl <;> rfl
theorem pg_lt5 {k : Nat} (h : isPage k) : k + 5 < 63 := by rcases h with rfl | rfl | rfl | rfl <;> decide
theorem pg_sh5 {k : Nat} (h : isPage k) : zSH (k + 5) = (8, 9) := by rcases h with rfl | rfl | rfl | rfl <;> rfl
theorem pg_rf5 {k : Nat} (h : isPage k) : zRF k 7 = some (k + 5) := by rcases h with rfl | rfl | rfl | rfl <;> rfl
theorem rw_lt {k : Nat} (h : isRow k) : k < 63 := by rcases h with rfl | rfl | rfl | rfl | rfl | rfl | rfl | rfl <;> decide
theorem rw_sh {k : Nat} (h : isRow k) : (zSH k).1 = 4 := by rcases h with rfl | rfl | rfl | rfl | rfl | rfl | rfl | rfl <;> rfl
theorem rw_lt1 {k : Nat} (h : isRow k) : k + 1 < 63 := by rcases h with rfl | rfl | rfl | rfl | rfl | rfl | rfl | rfl <;> decide
theorem rw_sh1 {k : Nat} (h : isRow k) : zSH (k + 1) = (8, 40) := by rcases h with rfl | rfl | rfl | rfl | rfl | rfl | rfl | rfl <;> rfl
theorem rw_rf1 {k : Nat} (h : isRow k) : zRF k 0 = some (k + 1) := by rcases h with rfl | rfl | rfl | rfl | rfl | rfl | rfl | rfl <;> rfl
theorem vp_small {i : Int32} {n : Nat} (h : vp_in i n) : i.toNatClampNeg < n := Nat.not_le.mp fun q => h (Or.inr q)
theorem rows_rf {i : Int32} (h : vp_in i 8) : zRF 1 i.toNatClampNeg = some (24 + 2 * i.toNatClampNeg) := by
  have h2 := vp_small h
  revert h2
  generalize i.toNatClampNeg = j
  intro h2
  have : ∀ j, j < 8 → zRF 1 j = some (24 + 2 * j) := by decide
  exact this j h2
theorem rows_is {j : Nat} (h : j < 8) : isRow (24 + 2 * j) := by
  have : ∀ j, j < 8 → 24 + 2 * j = 24 ∨ 24 + 2 * j = 26 ∨ 24 + 2 * j = 28 ∨ 24 + 2 * j = 30 ∨ 24 + 2 * j = 32 ∨ 24 + 2 * j = 34 ∨ 24 + 2 * j = 36 ∨ 24 + 2 * j = 38 := by decide
  exact this j h
theorem imgs_rf {i : Int32} (h : vp_in i 2) : zRF 2 i.toNatClampNeg = some (40 + 6 * i.toNatClampNeg) := by
  have h2 := vp_small h
  revert h2
  generalize i.toNatClampNeg = j
  intro h2
  have : ∀ j, j < 2 → zRF 2 j = some (40 + 6 * j) := by decide
  exact this j h2
theorem imgs_is {j : Nat} (h : j < 2) : isPage (40 + 6 * j) := by
  have : ∀ j, j < 2 → 40 + 6 * j = 6 ∨ 40 + 6 * j = 12 ∨ 40 + 6 * j = 40 ∨ 40 + 6 * j = 46 := by decide
  exact this j h
theorem zc0 : zCls 0 RX0 TX0 5 tyX0 := ⟨rfl, zWs_r _ [193, 195, 197, 199, 201] (by decide +kernel) (by decide +kernel), tyX0_ok, nmX0, rfl, by decide⟩
theorem zc1 : zCls 1 RX1 TX1 2 tyX1 := ⟨rfl, zWs_r _ [212, 214] (by decide +kernel) (by decide +kernel), tyX1_ok, nmX1, rfl, by decide⟩
theorem zc2 : zCls 2 RX2 TX2 8 tyX2 := ⟨rfl, zWs_r _ [143, 145, 147, 149, 151, 153, 155, 157] (by decide +kernel) (by decide +kernel), tyX2_ok, nmX2, rfl, by decide⟩
theorem zc3 : zCls 3 RX3 TX3 5 tyX3 := ⟨rfl, zWs_r _ [169, 171, 173, 175, 177] (by decide +kernel) (by decide +kernel), tyX3_ok, nmX3, rfl, by decide⟩
theorem zc4 : zCls 4 RX4 TX4 3 tyX4 := ⟨rfl, zWs_r _ [228, 230, 232] (by decide +kernel) (by decide +kernel), tyX4_ok, nmX4, rfl, by decide⟩
theorem zc5 : zCls 5 RX5 TX5 5 tyX5 := ⟨rfl, zWs_r _ [112, 114, 116, 118, 120] (by decide +kernel) (by decide +kernel), tyX5_ok, nmX5, rfl, by decide⟩
theorem zc6 : zCls 6 RX6 TX6 7 tyX6 := ⟨rfl, zWs_r _ [242, 244, 246, 248, 250, 252, 254] (by decide +kernel) (by decide +kernel), tyX6_ok, nmX6, rfl, by decide⟩
theorem zc7 : zCls 7 RX7 TX7 25 tyX7 := ⟨rfl, zWs_r _ [862, 864, 866, 868, 870, 872, 874, 876, 878, 880, 882, 884, 886, 888, 890, 892, 894, 896, 898, 900, 902, 904, 906, 908, 910] (by decide +kernel) (by decide +kernel), tyX7_ok, nmX7, rfl, by decide⟩
section ZK
variable {X : zX} {M : zMt} {pc : Nat} {lv lv' : List (Nat × Value)} {st : List Value} {f : zF}
theorem z_sub {S : zS} (ks : List Nat) (h : ks.filterMap (fun k => lv[k]?) = lv') (k : Z X M pc lv' st S) : Z X M pc lv st S := by
  obtain ⟨p, l, e, R, s, m, args, below, meth, c, E, n0, z0, Q⟩ := X
  intro ok cap H locs ls hP hS hl
  refine k ok cap H locs ls hP hS ⟨hl.1, hl.2.1, fun q hq => hl.2.2 q ?_⟩
  obtain ⟨q0, h0, rfl⟩ := List.mem_map.mp hq
  subst h
  obtain ⟨i, -, hi⟩ := List.mem_filterMap.mp h0
  exact List.mem_map.mpr ⟨q0, List.mem_of_getElem? hi, rfl⟩
theorem zmerge {c : Prop} [Decidable c] {A B : Int32} {P : Int32 → Prop} (h : P (if c then A else B)) : (c → P A) ∧ (¬ c → P B) := ⟨fun q => by rw [if_pos q] at h; exact h, fun q => by rw [if_neg q] at h; exact h⟩
theorem zmergeN {c : Prop} [Decidable c] {A B : Int32} {P : Int32 → Prop} (h : P (if c then B else A)) : (¬ c → P A) ∧ (c → P B) := ⟨fun q => by rw [if_neg q] at h; exact h, fun q => by rw [if_pos q] at h; exact h⟩
theorem z_name {S : zS} {x : Int32} (k : ∀ y : Int32, y = x → Z X M pc lv (.int y :: st) S) : Z X M pc lv (.int x :: st) S := k x rfl
theorem k_geti {ci : Nat} {C : String} {T : u_T} {N : Nat} {ty : Nat → FieldType} (hc : zCls ci C T N ty) {idx j k : Nat} (hd : decode M.2.1 pc = .ok (.getfield idx, 3)) (hw : Cond.fieldLink M.1.cls idx (T j).1 (T j).2.1 (T j).2.2.1 ∈ zWs) (hj : j < N) (hf : (zft ci).getD j false = false) (hk : k < 63) (hs : (zSH k).1 = ci) {v : Int32} (hv : f k j = v) (kk : Z X M (pc + 3) lv (.int v :: st) (zC f)) : Z X M pc lv (.ref k :: st) (zC f) := z_geti hc hd hw hj hf hk hs (by subst hv; exact kk)
theorem k_getr {ci : Nat} {C : String} {T : u_T} {N : Nat} {ty : Nat → FieldType} (hc : zCls ci C T N ty) {idx j k k2 : Nat} (hd : decode M.2.1 pc = .ok (.getfield idx, 3)) (hw : Cond.fieldLink M.1.cls idx (T j).1 (T j).2.1 (T j).2.2.1 ∈ zWs) (hj : j < N) (hf : (zft ci).getD j false = true) (hk : k < 63) (hs : (zSH k).1 = ci) (hr2 : zRF k j = some k2) (kk : Z X M (pc + 3) lv (.ref k2 :: st) (zC f)) : Z X M pc lv (.ref k :: st) (zC f) := z_getr hc hd hw hj hf hk hs hr2 kk
theorem k_puti {ci : Nat} {C : String} {T : u_T} {N : Nat} {ty : Nat → FieldType} (hc : zCls ci C T N ty) {idx j k : Nat} {v : Int32} (hd : decode M.2.1 pc = .ok (.putfield idx, 3)) (hw : Cond.fieldLink M.1.cls idx (T j).1 (T j).2.1 (T j).2.2.1 ∈ zWs) (hj : j < N) (hf : (zft ci).getD j false = false) (hfin : (T j).2.2.2 = false) (hty : ty j = .int) (hk : k < 63) (hs : (zSH k).1 = ci) (kk : Z X M (pc + 3) lv st (zC (zup f k j v))) : Z X M pc lv (.int v :: .ref k :: st) (zC f) := z_puti hc hd hw hj hf hfin hty hk hs kk
theorem k_iald {k n j : Nat} {i : Int32} (hd : decode M.2.1 pc = .ok (.iaload, 1)) (hk : k < 63) (hs : zSH k = (8, n)) (hi : vp_in i n) (hj : i.toNatClampNeg = j) {v : Int32} (hv : f k j = v) (kk : Z X M (pc + 1) lv (.int v :: st) (zC f)) : Z X M pc lv (.int i :: .ref k :: st) (zC f) := z_iald hd hk hs hi (by subst hv; rw [hj]; exact kk)
theorem k_iast {k n j : Nat} {i v : Int32} (hd : decode M.2.1 pc = .ok (.iastore, 1)) (hk : k < 63) (hs : zSH k = (8, n)) (hi : vp_in i n) (hj : i.toNatClampNeg = j) (kk : Z X M (pc + 1) lv st (zC (zup f k j v))) : Z X M pc lv (.int v :: .int i :: .ref k :: st) (zC f) := z_iast hd hk hs hi (by rw [hj]; exact kk)
theorem k_zald {k n j : Nat} {i : Int32} (hd : decode M.2.1 pc = .ok (.baload, 1)) (hk : k < 63) (hs : zSH k = (9, n)) (hi : vp_in i n) (hj : i.toNatClampNeg = j) {v : Int32} (hv : f k j = v) (kk : Z X M (pc + 1) lv (.int v :: st) (zC f)) : Z X M pc lv (.int i :: .ref k :: st) (zC f) := z_zald hd hk hs hi (by subst hv; rw [hj]; exact kk)
theorem k_zast {k n j : Nat} {i v : Int32} (hd : decode M.2.1 pc = .ok (.bastore, 1)) (hk : k < 63) (hs : zSH k = (9, n)) (hi : vp_in i n) (hj : i.toNatClampNeg = j) (hv : vp_nar .boolean v = v) (kk : Z X M (pc + 1) lv st (zC (zup f k j v))) : Z X M pc lv (.int v :: .int i :: .ref k :: st) (zC f) := z_zast hd hk hs hi hv (by rw [hj]; exact kk)
theorem k_aald {k n cq k2 : Nat} {i : Int32} (hd : decode M.2.1 pc = .ok (.aaload, 1)) (hk : k < 63) (hs : zSH k = (cq + 10, n)) (hq : cq < 2) (hi : vp_in i n) (hr2 : zRF k i.toNatClampNeg = some k2) (kk : Z X M (pc + 1) lv (.ref k2 :: st) (zC f)) : Z X M pc lv (.int i :: .ref k :: st) (zC f) := z_aald hd hk hs hq hi hr2 kk
theorem k_alen {k n t : Nat} {v : Int32} (hd : decode M.2.1 pc = .ok (.arraylength, 1)) (hk : k < 63) (hs : zSH k = (t + 8, n)) (ht : t < 4) (hv : Int32.ofNat n = v) (kk : Z X M (pc + 1) lv (.int v :: st) (zC f)) : Z X M pc lv (.ref k :: st) (zC f) := z_alen hd hk hs ht hv kk
theorem k_iret {K : Int32 → zF → Prop} {v : Int32} {ty : FieldType} (hR : kR X (zRi K)) (hd : decode M.2.1 pc = .ok (.ireturn, 1)) (hty : M.2.2.2.1 = some ty) (hv : narrow ty (.int v) = .int v) (h : K v f) : Z X M pc lv [.int v] (zC f) := z_iret hR hd hty hv ⟨v, f, rfl, rfl, h⟩
theorem k_vret {K : zF → Prop} (hR : kR X (zRv K)) (hd : decode M.2.1 pc = .ok (.return_, 1)) (hty : M.2.2.2.1 = none) (h : K f) : Z X M pc lv [] (zC f) := z_vret hR hd hty ⟨f, rfl, rfl, h⟩
theorem k_lret {K : Int64 → zF → Prop} {v : Int64} (hR : kR X (zRl K)) (hd : decode M.2.1 pc = .ok (.lreturn, 1)) (hty : M.2.2.2.1 = some .long) (h : K v f) : Z X M pc lv [.long v] (zC f) := z_lret hR hd hty ⟨v, f, rfl, rfl, h⟩
theorem k_aret {K : Option Nat → zF → Prop} {k : Nat} {C : String} (hR : kR X (zRq K)) (hd : decode M.2.1 pc = .ok (.areturn, 1)) (hty : M.2.2.2.1 = some (.object C)) (h : K (some k) f) : Z X M pc lv [.ref k] (zC f) := z_aret (r := some k) hR hd hty ⟨some k, f, rfl, rfl, h⟩
theorem k_aretN {K : Option Nat → zF → Prop} {C : String} (hR : kR X (zRq K)) (hd : decode M.2.1 pc = .ok (.areturn, 1)) (hty : M.2.2.2.1 = some (.object C)) (h : K none f) : Z X M pc lv [.null] (zC f) := z_aret (r := none) hR hd hty ⟨none, f, rfl, rfl, h⟩
def zcpyF (f : zF) (q0 q1 sp dp n : Nat) : zF := fun q => if q = q1 then va_cpy (f q0) (f q1) sp dp n else f q
theorem k_copyi {idx q0 q1 n0' n1 : Nat} {sp dp n : Int32} (hd : decode M.2.1 pc = .ok (.invokestatic idx, 3)) (hw : ∀ w ∈ [Cond.methodLink M.1.cls idx arraycopyName, .static arraycopyName, .initialized "java/lang/System", .native arraycopyName], w ∈ zWs) (hD : 1 ≤ M.2.2.2.2) (hst : Nat.ble ((st.map fun v => v.category).sum) 4 = true) (hk0 : q0 < 63) (hk1 : q1 < 63) (hs0 : zSH q0 = (8, n0')) (hs1 : zSH q1 = (8, n1)) (h1 : ¬ sp < 0) (h2 : ¬ dp < 0) (h3 : ¬ n < 0) (h4 : sp.toNatClampNeg + n.toNatClampNeg ≤ n0') (h5 : dp.toNatClampNeg + n.toNatClampNeg ≤ n1) (kk : Z X M (pc + 3) lv st (zC (zcpyF f q0 q1 sp.toNatClampNeg dp.toNatClampNeg n.toNatClampNeg))) : Z X M pc lv (.int n :: .int dp :: .ref q1 :: .int sp :: .ref q0 :: st) (zC f) := z_copyi hd hw hD hst hk0 hk1 hs0 hs1 h1 h2 h3 h4 h5 kk
theorem k_cVi {idx n k cx : Nat} {C : String} {T : u_T} {N : Nat} {ty : Nat → FieldType} {M' : zMt} {av : List Value} {K : Int32 → zF → Prop} (hc : zCls cx C T N ty) (hC : M'.1.cls = C) (hd : decode M.2.1 pc = .ok (.invokevirtual idx, 3)) (lk : zLkV M.1.cls idx M' n) (hn : av.length = n) (hD : M'.2.2.2.2 + 1 ≤ M.2.2.2.2) (hL : M'.2.2.1 ≤ 9) (hk : k < 63) (hs : (zSH k).1 = cx) (hst : Nat.ble ((st.map fun v => v.category).sum) 8 = true) (hM : ci M' (.ref k :: av) f K) (kk : ∀ (r : Int32) (f' : zF), K r f' → Z X M (pc + 3) lv (.int r :: st) (zC f')) : Z X M pc lv (av.reverse ++ .ref k :: st) (zC f) := z_callV hc hC hd lk hn hD hL hk hs hst hM (fun v S' h => by
  obtain ⟨r, f', h1, h2, h3⟩ := h
  subst h1
  subst h2
  exact ⟨⟨rfl, rfl⟩, kk r f' h3⟩)
theorem k_cSi {idx n : Nat} {M' : zMt} {av : List Value} {K : Int32 → zF → Prop} (hd : decode M.2.1 pc = .ok (.invokestatic idx, 3)) (lk : zLkS M.1.cls idx M' n ∨ zLkN M.1.cls idx M' n) (hn : av.length = n) (hD : M'.2.2.2.2 + 1 ≤ M.2.2.2.2) (hL : M'.2.2.1 ≤ 9) (hst : Nat.ble ((st.map fun v => v.category).sum) 8 = true) (hM : ci M' av f K) (kk : ∀ (r : Int32) (f' : zF), K r f' → Z X M (pc + 3) lv (.int r :: st) (zC f')) : Z X M pc lv (av.reverse ++ st) (zC f) := z_callS hd lk hn hD hL hst hM (fun v S' h => by
  obtain ⟨r, f', h1, h2, h3⟩ := h
  subst h1
  subst h2
  exact ⟨⟨rfl, rfl⟩, kk r f' h3⟩)
theorem k_cTi {idx n i : Nat} {M' : zMt} {av : List Value} {K : Int32 → zF → Prop} (hC : M'.1.cls = "java/lang/String") (hd : decode M.2.1 pc = .ok (.invokevirtual idx, 3)) (lk : zLkV M.1.cls idx M' n) (hn : av.length = n) (hD : M'.2.2.2.2 + 1 ≤ M.2.2.2.2) (hL : M'.2.2.1 ≤ 9) (hi : i < 8) (hst : Nat.ble ((st.map fun v => v.category).sum) 8 = true) (hM : ci M' (.ref (1000 + i) :: av) f K) (kk : ∀ (r : Int32) (f' : zF), K r f' → Z X M (pc + 3) lv (.int r :: st) (zC f')) : Z X M pc lv (av.reverse ++ .ref (1000 + i) :: st) (zC f) := z_callT hC hd lk hn hD hL hi hst hM (fun v S' h => by
  obtain ⟨r, f', h1, h2, h3⟩ := h
  subst h1
  subst h2
  exact ⟨⟨rfl, rfl⟩, kk r f' h3⟩)
theorem k_cVq {idx n k cx : Nat} {C : String} {T : u_T} {N : Nat} {ty : Nat → FieldType} {M' : zMt} {av : List Value} {K : Option Nat → zF → Prop} (hc : zCls cx C T N ty) (hC : M'.1.cls = C) (hd : decode M.2.1 pc = .ok (.invokevirtual idx, 3)) (lk : zLkV M.1.cls idx M' n) (hn : av.length = n) (hD : M'.2.2.2.2 + 1 ≤ M.2.2.2.2) (hL : M'.2.2.1 ≤ 9) (hk : k < 63) (hs : (zSH k).1 = cx) (hst : Nat.ble ((st.map fun v => v.category).sum) 8 = true) (hM : cq M' (.ref k :: av) f K) (kk : ∀ (r : Option Nat) (f' : zF), K r f' → Z X M (pc + 3) lv (va_rf r :: st) (zC f')) : Z X M pc lv (av.reverse ++ .ref k :: st) (zC f) := z_callV hc hC hd lk hn hD hL hk hs hst hM (fun v S' h => by
  obtain ⟨r, f', h1, h2, h3⟩ := h
  subst h1
  subst h2
  exact ⟨⟨rfl, rfl⟩, kk r f' h3⟩)
theorem k_cSq {idx n : Nat} {M' : zMt} {av : List Value} {K : Option Nat → zF → Prop} (hd : decode M.2.1 pc = .ok (.invokestatic idx, 3)) (lk : zLkS M.1.cls idx M' n ∨ zLkN M.1.cls idx M' n) (hn : av.length = n) (hD : M'.2.2.2.2 + 1 ≤ M.2.2.2.2) (hL : M'.2.2.1 ≤ 9) (hst : Nat.ble ((st.map fun v => v.category).sum) 8 = true) (hM : cq M' av f K) (kk : ∀ (r : Option Nat) (f' : zF), K r f' → Z X M (pc + 3) lv (va_rf r :: st) (zC f')) : Z X M pc lv (av.reverse ++ st) (zC f) := z_callS hd lk hn hD hL hst hM (fun v S' h => by
  obtain ⟨r, f', h1, h2, h3⟩ := h
  subst h1
  subst h2
  exact ⟨⟨rfl, rfl⟩, kk r f' h3⟩)
theorem k_cVl {idx n k cx : Nat} {C : String} {T : u_T} {N : Nat} {ty : Nat → FieldType} {M' : zMt} {av : List Value} {K : Int64 → zF → Prop} (hc : zCls cx C T N ty) (hC : M'.1.cls = C) (hd : decode M.2.1 pc = .ok (.invokevirtual idx, 3)) (lk : zLkV M.1.cls idx M' n) (hn : av.length = n) (hD : M'.2.2.2.2 + 1 ≤ M.2.2.2.2) (hL : M'.2.2.1 ≤ 9) (hk : k < 63) (hs : (zSH k).1 = cx) (hst : Nat.ble ((st.map fun v => v.category).sum) 8 = true) (hM : cl M' (.ref k :: av) f K) (kk : ∀ (r : Int64) (f' : zF), K r f' → Z X M (pc + 3) lv (.long r :: st) (zC f')) : Z X M pc lv (av.reverse ++ .ref k :: st) (zC f) := z_callV hc hC hd lk hn hD hL hk hs hst hM (fun v S' h => by
  obtain ⟨r, f', h1, h2, h3⟩ := h
  subst h1
  subst h2
  exact ⟨⟨rfl, rfl⟩, kk r f' h3⟩)
theorem k_cSl {idx n : Nat} {M' : zMt} {av : List Value} {K : Int64 → zF → Prop} (hd : decode M.2.1 pc = .ok (.invokestatic idx, 3)) (lk : zLkS M.1.cls idx M' n ∨ zLkN M.1.cls idx M' n) (hn : av.length = n) (hD : M'.2.2.2.2 + 1 ≤ M.2.2.2.2) (hL : M'.2.2.1 ≤ 9) (hst : Nat.ble ((st.map fun v => v.category).sum) 8 = true) (hM : cl M' av f K) (kk : ∀ (r : Int64) (f' : zF), K r f' → Z X M (pc + 3) lv (.long r :: st) (zC f')) : Z X M pc lv (av.reverse ++ st) (zC f) := z_callS hd lk hn hD hL hst hM (fun v S' h => by
  obtain ⟨r, f', h1, h2, h3⟩ := h
  subst h1
  subst h2
  exact ⟨⟨rfl, rfl⟩, kk r f' h3⟩)
theorem k_cVv {idx n k cx : Nat} {C : String} {T : u_T} {N : Nat} {ty : Nat → FieldType} {M' : zMt} {av : List Value} {K : zF → Prop} (hc : zCls cx C T N ty) (hC : M'.1.cls = C) (hd : decode M.2.1 pc = .ok (.invokevirtual idx, 3)) (lk : zLkV M.1.cls idx M' n) (hn : av.length = n) (hD : M'.2.2.2.2 + 1 ≤ M.2.2.2.2) (hL : M'.2.2.1 ≤ 9) (hk : k < 63) (hs : (zSH k).1 = cx) (hst : Nat.ble ((st.map fun v => v.category).sum) 8 = true) (hM : cv M' (.ref k :: av) f K) (kk : ∀ (f' : zF), K f' → Z X M (pc + 3) lv st (zC f')) : Z X M pc lv (av.reverse ++ .ref k :: st) (zC f) := z_callV hc hC hd lk hn hD hL hk hs hst hM (fun v S' h => by
  obtain ⟨f', h1, h2, h3⟩ := h
  subst h1
  subst h2
  exact ⟨⟨rfl, rfl⟩, kk f' h3⟩)
theorem k_cSv {idx n : Nat} {M' : zMt} {av : List Value} {K : zF → Prop} (hd : decode M.2.1 pc = .ok (.invokestatic idx, 3)) (lk : zLkS M.1.cls idx M' n ∨ zLkN M.1.cls idx M' n) (hn : av.length = n) (hD : M'.2.2.2.2 + 1 ≤ M.2.2.2.2) (hL : M'.2.2.1 ≤ 9) (hst : Nat.ble ((st.map fun v => v.category).sum) 8 = true) (hM : cv M' av f K) (kk : ∀ (f' : zF), K f' → Z X M (pc + 3) lv st (zC f')) : Z X M pc lv (av.reverse ++ st) (zC f) := z_callS hd lk hn hD hL hst hM (fun v S' h => by
  obtain ⟨f', h1, h2, h3⟩ := h
  subst h1
  subst h2
  exact ⟨⟨rfl, rfl⟩, kk f' h3⟩)
end ZK
theorem zNw_at {w : Cond} (i : Nat) (h : lw_tbl[i]? = some w) (g : zIsNest w = true) : w ∈ zNw := List.mem_filter.mpr ⟨List.mem_of_getElem? h, g⟩
