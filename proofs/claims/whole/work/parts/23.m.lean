/-! ===== the reference: what its page answers ===== -/
/-- only the marks of a call differ -/
def nz (f f' : zF) : Prop := (∀ c, c ≠ 52 → f' c = f c) ∧ ∀ j, j ≠ 0 → j ≠ 19 → j ≠ 20 → f' 52 j = f 52 j
theorem nz_refl (f : zF) : nz f f := ⟨fun _ _ => rfl, fun _ _ _ _ => rfl⟩
theorem nz_trans {f g h : zF} (a : nz f g) (b : nz g h) : nz f h := ⟨fun c hc => (b.1 c hc).trans (a.1 c hc), fun j h1 h2 h3 => (b.2 j h1 h2 h3).trans (a.2 j h1 h2 h3)⟩
theorem nz_up {f g : zF} (a : nz f g) {j : Nat} (hj : j = 0 ∨ j = 19 ∨ j = 20) {v : Int32} : nz f (zup g 52 j v) := by
  refine ⟨fun c hc => ?_, fun i h1 h2 h3 => ?_⟩
  · rw [zup_ne hc]
    exact a.1 c hc
  · rw [zup_eq]
    show (if i = j then v else g 52 i) = _
    rw [if_neg (by omega)]
    exact a.2 i h1 h2 h3
def outI (x : Int32) (n : Nat) : Prop := x < 0 ∨ nI n ≤ x
theorem inOut (x : Int32) {n : Nat} (hn : n < 2 ^ 31) : outI x n ∨ ∃ j : Nat, j < n ∧ x = nI j := by
  rcases pk_ix x hn with h | h | h
  · exact Or.inl (Or.inl h)
  · exact Or.inl (Or.inr h)
  · exact Or.inr h
theorem m_in_t {f : zF} {K : Int32 → zF → Prop} {x a b : Int64} (h1 : a.toInt ≤ x.toInt) (h2 : x.toInt ≤ b.toInt) (h : K 1 f) : ci mX7_in [.long x, .long a, .long b] f K := by
  refine w_X7_in ⟨fun c => ?_, fun _ => ⟨fun c => ?_, fun _ => h⟩⟩
  · have := Int64.lt_iff_toInt_lt.mp ((lg_cmp_lt x a).mp c)
    omega
  · have := Int64.lt_iff_toInt_lt.mp ((lg_cmp_gt x b).mp c)
    omega
theorem m_in_f {f : zF} {K : Int32 → zF → Prop} {x a b : Int64} (h1 : x.toInt < a.toInt ∨ b.toInt < x.toInt) (h : K 0 f) : ci mX7_in [.long x, .long a, .long b] f K := by
  refine w_X7_in ⟨fun _ => h, fun c => ⟨fun _ => h, fun c2 => ?_⟩⟩
  rcases h1 with h1 | h1
  · exact absurd ((lg_cmp_lt x a).mpr (Int64.lt_iff_toInt_lt.mpr h1)) c
  · exact absurd ((lg_cmp_gt x b).mpr (Int64.lt_iff_toInt_lt.mpr h1)) c2
theorem outI_toInt {x : Int32} {n : Nat} (hn : n < 2 ^ 31) (h : outI x n) : x.toInt < 0 ∨ (n : Int) ≤ x.toInt := by
  rcases h with h | h
  · exact Or.inl (by have := Int32.lt_iff_toInt_lt.mp h; rwa [Int32.toInt_zero] at this)
  · right
    have := Int32.le_iff_toInt_le.mp h
    rwa [nI_toInt hn] at this
theorem m_in0_t {f : zF} {K : Int32 → zF → Prop} {j n : Nat} {b : Int64} (hj : j < n) (hn : n < 2 ^ 31) (hb : b.toInt = (n : Int) - 1) (h : K 1 f) : ci mX7_in [.long (nI j).toInt64, .long 0, .long b] f K := by
  refine m_in_t ?_ ?_ h
  · rw [Int32.toInt_toInt64, nI_toInt (by omega)]
    show (0 : Int) ≤ _
    omega
  · rw [Int32.toInt_toInt64, nI_toInt (by omega), hb]
    omega
theorem m_in0_f {f : zF} {K : Int32 → zF → Prop} {x : Int32} {n : Nat} {b : Int64} (hx : outI x n) (hn : n < 2 ^ 31) (hb : b.toInt = (n : Int) - 1) (h : K 0 f) : ci mX7_in [.long x.toInt64, .long 0, .long b] f K := by
  refine m_in_f ?_ h
  rw [Int32.toInt_toInt64, hb]
  have := outI_toInt hn hx
  rcases this with h1 | h1
  · exact Or.inl h1
  · right
    omega
theorem l_pred {n : Nat} (hn : n < 2 ^ 31) : (nI n - 1).toInt64.toInt = (n : Int) - 1 := by
  rw [Int32.toInt_toInt64]
  exact i32_toInt_ofNat_sub (n := n) (c := 1) hn (by omega)
theorem nb1 : narrow .boolean (.int 1) = .int 1 := rfl
theorem nb0 : narrow .boolean (.int 0) = .int 0 := rfl
section
variable {f : zF} {K : Int32 → zF → Prop} {A : aPg}
theorem m_isOne_t {l : Nat} (hM : MP (f 56) 0 A) (ok : okPg A) (hl : l < pL A) (h : K 1 f) : ci mX7_isOne [.ref 52, .int (nI l)] f K := by
  have := ok.2.1
  refine w_X7_isOne (m_in0_t hl (by omega) ?_ ⟨nb1, h⟩)
  rw [show f 56 1 = _ from hM.2.1]
  exact l_pred (by omega)
theorem m_isOne_f {x : Int32} (hM : MP (f 56) 0 A) (ok : okPg A) (hx : outI x (pL A)) (h : K 0 f) : ci mX7_isOne [.ref 52, .int x] f K := by
  have := ok.2.1
  refine w_X7_isOne (m_in0_f hx (by omega) ?_ ⟨nb0, h⟩)
  rw [show f 56 1 = _ from hM.2.1]
  exact l_pred (by omega)
theorem m_isPlace_t {l : Nat} (hM : MP (f 56) 0 A) (ok : okPg A) (hl : l < pP A) (h : K 1 f) : ci mX7_isPlace [.ref 52, .int (nI l)] f K := by
  have := ok.2.2.1
  refine w_X7_isPlace (m_in0_t hl (by omega) ?_ ⟨nb1, h⟩)
  rw [show f 56 2 = _ from hM.2.2.1]
  exact l_pred (by omega)
theorem m_isPlace_f {x : Int32} (hM : MP (f 56) 0 A) (ok : okPg A) (hx : outI x (pP A)) (h : K 0 f) : ci mX7_isPlace [.ref 52, .int x] f K := by
  have := ok.2.2.1
  refine w_X7_isPlace (m_in0_f hx (by omega) ?_ ⟨nb0, h⟩)
  rw [show f 56 2 = _ from hM.2.2.1]
  exact l_pred (by omega)
theorem m_isSide_t {l : Nat} (hl : l < 2) (h : K 1 f) : ci mX7_isSide [.int (nI l)] f K := w_X7_isSide (m_in0_t hl (by omega) rfl ⟨nb1, h⟩)
theorem m_isSide_f {x : Int32} (hx : outI x 2) (h : K 0 f) : ci mX7_isSide [.int x] f K := w_X7_isSide (m_in0_f hx (by omega) rfl ⟨nb0, h⟩)
theorem m_isRow_t {l : Nat} (hl : l < 8) (h : K 1 f) : ci mX7_isRow [.int (nI l)] f K := w_X7_isRow (m_in0_t hl (by omega) rfl ⟨nb1, h⟩)
theorem m_isRow_f {x : Int32} (hx : outI x 8) (h : K 0 f) : ci mX7_isRow [.int x] f K := w_X7_isRow (m_in0_f hx (by omega) rfl ⟨nb0, h⟩)
theorem m_isThere_t (hM : MP (f 56) 0 A) (ok : okPg A) (h0 : 0 < pL A) (h : K 1 f) : ci mX7_isThere [.ref 52] f K := by
  have := ok.2.1
  refine w_X7_isThere ⟨fun c => absurd c ?_, fun _ => h⟩
  rw [show f 56 1 = _ from hM.2.1]
  exact nI_nle h0 (by omega)
theorem m_isThere_f (hM : MP (f 56) 0 A) (h0 : pL A = 0) (h : K 0 f) : ci mX7_isThere [.ref 52] f K := by
  refine w_X7_isThere ⟨fun _ => h, fun c => absurd ?_ c⟩
  rw [show f 56 1 = _ from hM.2.1, h0]
  exact Int32.le_refl _
theorem ix_c (l : Nat) : 3 + 2 * nI l + 1 = nI (4 + 2 * l) := by
  rw [show (3 : Int32) = nI 3 from rfl, show (2 : Int32) = nI 2 from rfl, show (1 : Int32) = nI 1 from rfl, pk_mul, nI_add, nI_add, show 3 + 2 * l + 1 = 4 + 2 * l by omega]
theorem ix_k (l : Nat) : 3 + 2 * nI l = nI (3 + 2 * l) := by
  rw [show (3 : Int32) = nI 3 from rfl, show (2 : Int32) = nI 2 from rfl, pk_mul, nI_add]
theorem ix_s (s p : Nat) : 19 + 9 * nI s + nI p = nI (19 + 9 * s + p) := by
  rw [show (19 : Int32) = nI 19 from rfl, show (9 : Int32) = nI 9 from rfl, pk_mul, nI_add, nI_add]
theorem m_cellsOf {l : Nat} (hM : MP (f 56) 0 A) (ok : okPg A) (hl : l < pL A) (h : K (nI (pE A l)) f) : ci mX7_cellsOf [.ref 52, .int (nI l)] f K := by
  have := ok.2.1
  refine w_X7_cellsOf ?_
  rw [ix_c, nI_clamp (by omega)]
  refine ⟨vp_in_nI (by omega) (by omega), ?_⟩
  have e := (hM.2.2.2.1 l hl).2
  rw [Nat.zero_add] at e
  rw [e]
  exact h
theorem m_kindOf {l : Nat} (hM : MP (f 56) 0 A) (ok : okPg A) (hl : l < pL A) (h : K (nI (pK A l)) f) : ci mX7_kindOf [.ref 52, .int (nI l)] f K := by
  have := ok.2.1
  refine w_X7_kindOf ?_
  rw [ix_k, nI_clamp (by omega)]
  refine ⟨vp_in_nI (by omega) (by omega), ?_⟩
  have e := (hM.2.2.2.1 l hl).1
  rw [Nat.zero_add] at e
  rw [e]
  exact h
theorem MP_S {s p : Nat} (hM : MP (f 56) 0 A) (hs : s < 2) (hp : p < pP A) : f 56 (19 + 9 * s + p) = nI (pS A s p) := by
  have e := hM.2.2.2.2 p hp
  rw [Nat.zero_add, Nat.zero_add] at e
  unfold pS
  rcases (show s = 0 ∨ s = 1 by omega) with rfl | rfl
  · rw [if_pos rfl]
    exact e.1
  · rw [if_neg (by omega)]
    exact e.2
theorem m_on {s p : Nat} (hM : MP (f 56) 0 A) (ok : okPg A) (hs : s < 2) (hp : p < pP A) (h : K (nI (pS A s p)) f) : ci mX7_on [.ref 52, .int (nI s), .int (nI p)] f K := by
  have := ok.2.2.1
  refine w_X7_on ?_
  rw [ix_s, nI_clamp (by omega)]
  refine ⟨vp_in_nI (by omega) (by omega), ?_⟩
  rw [MP_S hM hs hp]
  exact h
theorem m_behindOf {s p : Nat} (hM : MP (f 56) 0 A) (ok : okPg A) (hs : s < 2) (hp : p < pP A) (h : K (nI (pS A (1 - s) (pP A - 1 - p))) f) : ci mX7_behindOf [.ref 52, .int (nI s), .int (nI p)] f K := by
  refine w_X7_behindOf ?_
  rw [show f 56 2 = _ from hM.2.2.1, nI_bk hp, show (1 : Int32) = nI 1 from rfl, pk_sub (by omega)]
  exact m_on hM ok (by omega) (by omega) h
theorem tu_eq {c : Nat} (hc : c < 512) : (((nI c &&& 73) <<< ((2 : Int32) &&& 31)) ||| (nI c &&& 146)) ||| ((nI c &&& 292) >>> ((2 : Int32) &&& 31)) = nI (turnN c) := turnN_I c hc
theorem m_turned {c : Nat} (hc : c < 512) (h : K (nI (turnN c)) f) : ci mX7_turned [.int (nI c)] f K := by
  refine w_X7_turned (fun z1 e1 => ?_)
  rw [e1, tu_eq hc]
  exact h
theorem q_turned {c : Nat} (hc : c < 512) (h : K (nI (turnN c)) f) : ci mX6_turned [.int (nI c)] f K := by
  refine w_X6_turned (fun z1 e1 => ?_)
  rw [e1, tu_eq hc]
  exact h
theorem nI_lit {k : Nat} {c : Int32} {b : Nat} (hk : k < 2 ^ 31) (hb : b < 2 ^ 31) (hc : c = nI b) : nI k = c ↔ k = b := by
  rw [hc]
  exact nI_eq hk hb
theorem m_throughOf {l : Nat} (hM : MP (f 56) 0 A) (ok : okPg A) (hl : l < pL A) (h : K (nI (pT A l)) f) : ci mX7_throughOf [.ref 52, .int (nI l)] f K := by
  have hk := (ok.2.2.2.1 l hl).2.1
  have hE := pE_lt ok hl
  unfold pT thrN at h
  refine w_X7_throughOf (m_kindOf hM ok hl ⟨fun c => ?_, fun c => ?_, fun c => ?_, fun c3 c4 c5 => ?_⟩)
  · have c : pK A l = 3 := (nI_lit (b := 3) (by omega) (by omega) rfl).mp c
    rw [if_pos c] at h
    refine m_cellsOf hM ok hl (m_turned hE ?_)
    rw [mask_64 _ (turnN_lt _ hE)]
    exact h
  · have c : pK A l = 4 := (nI_lit (b := 4) (by omega) (by omega) rfl).mp c
    rw [if_neg (by omega), if_pos c] at h
    exact m_cellsOf hM ok hl h
  · have c : pK A l = 5 := (nI_lit (b := 5) (by omega) (by omega) rfl).mp c
    rw [if_neg (by omega), if_neg (by omega), if_pos c] at h
    exact h
  · have c3 : ¬ pK A l = 3 := fun q => c3 ((nI_lit (b := 3) (by omega) (by omega) rfl).mpr q)
    have c4 : ¬ pK A l = 4 := fun q => c4 ((nI_lit (b := 4) (by omega) (by omega) rfl).mpr q)
    have c5 : ¬ pK A l = 5 := fun q => c5 ((nI_lit (b := 5) (by omega) (by omega) rfl).mpr q)
    rw [if_neg c3, if_neg c4, if_neg c5] at h
    exact m_cellsOf hM ok hl (m_turned hE h)
end
theorem MP_nz {f f' : zF} {A : aPg} (h : nz f f') (hM : MP (f 56) 0 A) : MP (f' 56) 0 A := by
  rw [h.1 56 (by omega)]
  exact hM
theorem CP_nz {f f' : zF} {c : Nat} {A : aPg} (h : nz f f') (hc : c < 47) (hP : CP f c A) : CP f' c A := by
  unfold CP
  rw [h.1 c (by omega), h.1 (c + 1) (by omega), h.1 (c + 2) (by omega), h.1 (c + 3) (by omega), h.1 (c + 4) (by omega), h.1 (c + 5) (by omega)]
  exact hP
/-- the reference reads cells -/
theorem m_readOf {f : zF} {K : Int32 → zF → Prop} {A : aPg} (hM : MP (f 56) 0 A) (ok : okPg A) (h0 : 0 < pL A) {s : Nat} (hs : s < 512) (h : ∀ f', nz f f' → f' 52 19 = nI (pLo A s) → f' 52 20 = nI (pCt A s) → K (nI (pNr A s)) f') : ci mX7_readOf [.ref 52, .int (nI s)] f K := by
  refine w_X7_readOf (fun X hX => ?_)
  have h8 := ok.2.1
  have key : ∀ k n g, n + k = pL A → nz f g → (n = 0 → g 52 19 = 10) → (0 < n → g 52 19 = nI (pOf A s (nrD (pOf A s) n)) ∧ g 52 20 = nI (ctD (pOf A s) (pOf A s (nrD (pOf A s) n)) n)) → Z X mX7_readOf 10 [(0, .ref 52), (1, .int (nI s)), (2, .int (nI (nrD (pOf A s) n))), (3, .int (nI n))] [] (zC g) := by
    intro k
    induction k with
    | zero =>
      intro n g hn hg _ hp
      have e : n = pL A := by omega
      refine l_X7_readOf_10 hX ⟨fun _ => ?_, fun q => absurd (by rw [(MP_nz hg hM).2.1, ← hn]; exact Int32.le_refl _) q⟩
      have hp := hp (by omega)
      rw [e] at hp ⊢
      exact h g hg hp.1 hp.2
    | succ k ih =>
      intro n g hn hg hz hp
      have hMg := MP_nz hg hM
      have ho := pOf_le A s n
      refine l_X7_readOf_10 hX ⟨fun q => absurd q (by rw [show g 56 1 = _ from hMg.2.1]; exact nI_ge (by omega) (by omega)), fun _ => ?_⟩
      refine m_cellsOf hMg ok (by omega) ?_
      rw [sp_xor]
      refine m_bits (sp_xor_lt (pE_lt ok (by omega)) hs) (fun z1 e1 z2 e2 z3 e3 => ?_)
      have hr : popN (pE A n ^^^ s) = pOf A s n := rfl
      rw [hr] at e1 e2 e3
      have hg2 : nz f (zup (zup g 52 20 z1) 52 19 z3) := nz_up (nz_up hg (by omega)) (by omega)
      have e19 : (zup (zup g 52 20 z1) 52 19 z3) 52 19 = z3 := by rw [zup_eq]; exact if_pos rfl
      have e20 : (zup (zup g 52 20 z1) 52 19 z3) 52 20 = z1 := by rw [zup_eq]; show (if 20 = 19 then z3 else _) = _; rw [if_neg (by omega), zup_eq]; exact if_pos rfl
      have h2 := ih (n + 1) (zup (zup g 52 20 z1) 52 19 z3) (by omega) hg2 (fun q => absurd q (by omega))
      rw [e19, e20] at h2
      rcases Nat.eq_zero_or_pos n with n0 | n0
      · subst n0
        rw [hz rfl] at e1 e2 e3
        have q : ¬ (10 : Int32) ≤ nI (pOf A s 0) := nI_ge (a := pOf A s 0) (b := 10) (by omega) (by omega)
        rw [if_neg q] at e1 e2 e3
        subst e1 e2 e3
        refine h2 (fun _ => ⟨?_, ?_⟩)
        · simp [nrD]
        · simp [nrD, ctD]
          rfl
      · obtain ⟨p1, p2⟩ := hp n0
        have hb := pOf_le A s (nrD (pOf A s) n)
        have hc := ctD_le (pOf A s) (pOf A s (nrD (pOf A s) n)) n
        rw [p1] at e1 e2 e3
        rw [p2] at e1
        by_cases q : pOf A s (nrD (pOf A s) n) ≤ pOf A s n
        · have q1 := nI_le q (by omega)
          rw [if_pos q1] at e1 e2 e3
          have en : nrD (pOf A s) (n + 1) = nrD (pOf A s) n := by rw [nrD, if_neg (by omega), if_neg (by omega)]
          rw [en, nI_succ] at h2
          rw [e2]
          refine h2 (fun _ => ⟨e3, ?_⟩)
          rw [e1, ctD]
          by_cases q2 : pOf A s n = pOf A s (nrD (pOf A s) n)
          · rw [if_pos (by rw [q2]), if_pos q2, nI_succ]
          · rw [if_neg (fun z => q2 ((nI_eq (by omega) (by omega)).mp z)), if_neg q2]
            rfl
        · rw [if_neg (fun z => q ((nI_leI (by omega) (by omega)).mp z))] at e1 e2 e3
          have en : nrD (pOf A s) (n + 1) = n := by rw [nrD, if_neg (by omega), if_pos (by omega)]
          rw [en, nI_succ] at h2
          rw [e2]
          refine h2 (fun _ => ⟨e3, ?_⟩)
          rw [e1, ctD, if_pos rfl, ctD_zero]
          · rfl
          · intro l hl
            have := nrD_min (pOf A s) n l hl
            omega
  refine key (pL A) 0 (zup f 52 19 10) (by omega) (nz_up (nz_refl f) (by omega)) (fun _ => ?_) (fun q => absurd q (by omega))
  rw [zup_eq]
  exact if_pos rfl
def pRd (A : aPg) (a b : Nat) : Nat := pNr A (pSh A a b)
theorem pRd_lt {A : aPg} {a b : Nat} (ha : a < pL A) : pRd A a b < pL A := pNr_lt (by omega)
theorem m_readBy {f : zF} {K : Int32 → zF → Prop} {A : aPg} (hM : MP (f 56) 0 A) (ok : okPg A) {a b : Nat} (ha : a < pL A) (hb : b < pL A) (h : ∀ f', nz f f' → K (nI (pRd A a b)) f') : ci mX7_readBy [.ref 52, .int (nI a), .int (nI b)] f K := by
  refine w_X7_readBy (m_cellsOf hM ok ha (m_throughOf hM ok hb ?_))
  rw [sp_or]
  exact m_readOf hM ok (by omega) (pSh_lt ok ha hb) (fun f' hf _ _ => h f' hf)
theorem q_readOf {f : zF} {K : Int32 → zF → Prop} {A : aPg} (hP : CP f 12 A) (ok : okPg A) {a b : Nat} (ha : a < pL A) (hb : b < pL A) (h : K (nI (pRd A a b)) f) : ci mX2_readOf [.ref 12, .int (nI a), .int (nI b)] f K :=
  w_X2_readOf pg12 (q_shownOf hP ok ha hb (q_nearest hP ok (pSh_lt ok ha hb) h))
