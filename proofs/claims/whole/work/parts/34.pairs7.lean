/-! ===== pairs: behind, ways, anew, harm ===== -/
theorem q_behindFor {f : zF} {K : Int32 → zF → Prop} {A : aPg} (hP : CP f 12 A) (ok : okPg A) {p t : Nat} (hp : p < pP A) (ht : t < 2 ^ 31) (h : K (nI (bhN A (pF A p) t)) f) : ci mX2_behindFor [.ref 12, .int (nI p), .int (nI t)] f K :=
  w_X2_behindFor pg12 (q_letterAt (s := 0) hP ok (by omega) hp (q_behindToRead (a := pF A p) hP ok (ok.2.2.2.2 p hp).1 ht h))
theorem neg_f {r : Int32} {A B : Prop} (hr : r < 0) (b : B) : (0 ≤ r → A) ∧ (¬ 0 ≤ r → B) := ⟨fun c => (Int32.lt_irrefl (Int32.lt_of_le_of_lt c hr)).elim, fun _ => b⟩
theorem ze_t {A B : Prop} (a : A) : ((0 : Int32) ≤ 0 → A) ∧ (¬ (0 : Int32) ≤ 0 → B) := ⟨fun _ => a, fun c => absurd (Int32.le_refl _) c⟩
theorem iq3 (f : zF) : iq f (zup (zup (zup f 0 6 0) 52 0 0) 52 1 0) := iq_52 (iq_52 (iq_0 (iq_refl f)) (by omega)) (by omega)
theorem Inv3 {f g : zF} (hI : Inv f) (h : nz (zup (zup (zup f 0 6 0) 52 0 0) 52 1 0) g) : Inv g := by
  refine Inv_iq hI (iq_nz (iq3 f) h) ?_
  rw [h.1 0 (by omega), h.2 1 (by omega) (by omega) (by omega), zup_ne (by omega), zup_ne (by omega), up_at, up_at]
theorem ix40 (i p : Nat) : 40 * nI i + nI p = nI (40 * i + p) := by rw [show (40 : Int32) = nI 40 from rfl, pk_mul, nI_add]
theorem p_behind : ∀ (a0 a1 : Int32) (f : zF), Inv f → pr2 Inv mX6_behind mX7_behind [.int a0, .int a1] f := by
  intro a0 a1 f hI K hK
  obtain ⟨A, ok, hP, hM⟩ := Inv_pg hI
  have fin : ∀ r f', nz f f' → K r r f' := fun r f' h => hK r f' (Inv_nz hI h)
  have hM0 := MP_nz (z0 f) hM
  have h9 := ok.2.2.1
  have h8 := ok.2.1
  rcases Nat.eq_zero_or_pos (pL A) with hL | hL
  · refine w_X6_behind (q_isThere_f hP hL (y0 (third0 hP hL ?_)))
    rcases inOut a1 (n := pP A) (by omega) with h1 | ⟨p, hp, rfl⟩
    · exact w_X7_behind (m_isPlace_f hM0 ok h1 (m_barred0 hM0 hL (neg_f (by decide) (fin _ _ (z0 f)))))
    · have := pP_L ok hp
      omega
  · refine w_X6_behind (q_isThere_t hP ok hL (y1 ?_))
    rcases inOut a1 (n := pP A) (by omega) with h1 | ⟨p, hp, rfl⟩
    · exact q_hasPlace_f hP (Or.inr h1) (y0' (w_X7_behind (m_isPlace_f hM0 ok h1 (m_barred_p hM0 ok hL (neg_f (by decide) (fin _ _ (z0 f)))))))
    · refine q_hasPlace_t (s := 0) hP ok (by omega) hp (y1' (third hI ok hP hM hL (fun r f' hr hq hk => ?_) (fun i hi e hR => ?_)))
      · exact w_X7_behind (m_isPlace_t (MP_iq (iq_52 hq (by omega)) hM) ok hp (hk _ (fun f2 h2 => neg_f hr (hK _ _ h2))))
      · subst e
        have hv := hR.2.2 p hp
        refine q_itemAt hi (by omega) ?_
        rw [hv.2]
        refine q_behindFor hP ok hp (by omega) (w_X6_unfound (w_X7_behind (m_isPlace_t (MP_iq (iq_52 (iq_0 (iq_refl f)) (by omega)) hM) ok hp (m_free hI ok hM hL hi hR (ze_t (m_on (s := 0) (MP_iq (iq3 f) hM) ok (by omega) hp ?_))))))
        rw [ix40, nI_clamp (by omega), row55 hi (hI.1 i hi) ok hR hp (iq3 f)]
        exact ⟨vp_in_nI (by omega) (by omega), m_behindBy (a := pF A p) (MP_iq (iq3 f) hM) ok (ok.2.2.2.2 p hp).1 (by omega) (fun f' h => hK _ _ (Inv3 hI h))⟩
/-- the ways of the places below n -/
def wyI (A : aPg) (v : Nat → Nat) : Nat → Int32
  | 0 => 1
  | n + 1 => wyI A v n * nI (popN (bhN A (pF A n) (v n)))
theorem q_ways {f : zF} {K : Int32 → zF → Prop} {A : aPg} (hP : CP f 12 A) (ok : okPg A) {i : Nat} (hi : i < 8) (hR : okR f A i) {X : zX} (hX : kR X (zRi K)) {x1 : Int32} (h : K (wyI A (vR f i) (pP A)) (zup f 0 6 0)) : Z X mX6_ways 28 [(0, .ref 0), (1, .int x1), (2, .ref (24 + 2 * i)), (3, .int 0), (4, .int 1), (5, .int 0)] [] (zC f) := by
  have h9 := ok.2.2.1
  have h8 := ok.2.1
  have key : ∀ k n, n + k = pP A → Z X mX6_ways 28 [(0, .ref 0), (1, .int x1), (2, .ref (24 + 2 * i)), (3, .int 0), (4, .int (wyI A (vR f i) n)), (5, .int (nI n))] [] (zC f) := by
    intro k
    induction k with
    | zero =>
      intro n hn
      have e : n = pP A := by omega
      refine l_X6_ways_28 (rows_is hi) hX ⟨fun _ => w_X6_unfound ?_, fun q => absurd (by rw [hP.2.2.1, ← hn]; exact Int32.le_refl _) q⟩
      rw [e]
      exact h
    | succ k ih =>
      intro n hn
      have hp : n < pP A := by omega
      have hv := hR.2.2 n hp
      refine l_X6_ways_28 (rows_is hi) hX ⟨fun q => absurd q (by rw [hP.2.2.1]; exact nI_ge (by omega) (by omega)), fun _ => q_itemAt hi (by omega) ?_⟩
      rw [hv.2]
      refine q_behindFor hP ok hp (by omega) (j_bitCount (Nat.lt_trans (bhN_lt ok) (by omega)) ?_)
      rw [← nI_succ]
      exact ih (n + 1) (by omega)
  exact key (pP A) 0 (by omega)
theorem m_ways {f : zF} {K : Int32 → zF → Prop} {A : aPg} (hM : MP (f 56) 0 A) (ok : okPg A) {i : Nat} (hi : i < 8) {v : Nat → Nat} (hv : ∀ p, p < pP A → v p < pL A ∧ f 55 (40 * i + p) = nI (v p)) {X : zX} (hX : kR X (zRi K)) {x2 : Int32} (h : ∀ f', nz f f' → K (wyI A v (pP A)) f') : Z X mX7_ways 23 [(0, .ref 52), (1, .int (nI i)), (2, .int x2), (3, .int 1), (4, .int 0)] [] (zC f) := by
  have h9 := ok.2.2.1
  have h8 := ok.2.1
  have key : ∀ k n g, n + k = pP A → nz f g → Z X mX7_ways 23 [(0, .ref 52), (1, .int (nI i)), (2, .int x2), (3, .int (wyI A v n)), (4, .int (nI n))] [] (zC g) := by
    intro k
    induction k with
    | zero =>
      intro n g hn hg
      have e : n = pP A := by omega
      refine l_X7_ways_23 hX ⟨fun _ => ?_, fun q => absurd (by rw [(MP_nz hg hM).2.2.1, ← hn]; exact Int32.le_refl _) q⟩
      rw [e]
      exact h g hg
    | succ k ih =>
      intro n g hn hg
      have hp : n < pP A := by omega
      have hMg := MP_nz hg hM
      have hv1 := hv n hp
      refine l_X7_ways_23 hX ⟨fun q => absurd q (by rw [show g 56 2 = _ from hMg.2.2.1]; exact nI_ge (by omega) (by omega)), fun _ => m_on (s := 0) hMg ok (by omega) hp ?_⟩
      rw [ix40, nI_clamp (by omega), hg.1 55 (by omega), hv1.2]
      refine ⟨vp_in_nI (by omega) (by omega), m_behindBy (a := pF A n) hMg ok (ok.2.2.2.2 n hp).1 (by omega) (fun g2 h2 => m_bits (Nat.lt_trans (bhN_lt ok) (by omega)) ?_)⟩
      rw [← nI_succ]
      exact ih (n + 1) g2 (by omega) (nz_trans hg h2)
  exact key (pP A) 0 f (by omega) (nz_refl f)
theorem p_ways : ∀ (a0 : Int32) (f : zF), Inv f → pr2 Inv mX6_ways mX7_ways [.int a0] f := by
  intro a0 f hI K hK
  obtain ⟨A, ok, hP, hM⟩ := Inv_pg hI
  have fin : ∀ r f', nz f f' → K r r f' := fun r f' h => hK r f' (Inv_nz hI h)
  have hM0 := MP_nz (z0 f) hM
  rcases Nat.eq_zero_or_pos (pL A) with hL | hL
  · exact w_X6_ways (fun X hX => third0 hP hL (w_X7_ways (fun X hX => m_barred0 hM0 hL (neg_f (by decide) (fin _ _ (z0 f))))))
  · refine w_X6_ways (fun X hX => third hI ok hP hM hL (fun r f' hr hq hk => w_X7_ways (fun X hX => hk _ (fun f2 h2 => neg_f hr (hK _ _ h2)))) (fun i hi e hR => ?_))
    subst e
    refine q_ways hP ok hi hR hX (w_X7_ways (fun X hX => m_free hI ok hM hL hi hR (ze_t (m_ways (v := vR f i) (MP_iq (iq3 f) hM) ok hi (fun p hp => ⟨(hR.2.2 p hp).1, row55 hi (hI.1 i hi) ok hR hp (iq3 f)⟩) hX (fun f' h => hK _ _ (Inv3 hI h))))))
def smN (A : aPg) (v : Nat → Nat) : Nat → Nat
  | 0 => 0
  | n + 1 => smN A v n + fwN A n (v n) (pL A)
theorem fwI_3 {n : Nat} (h : n ≤ 3) : fwI n = -1000000 ↔ n = 3 := by
  unfold fwI
  by_cases z : n = 3
  · simp [z]
  · rw [if_neg z]
    exact ⟨fun c => absurd c (m1_ne n (by omega)), fun c => absurd c z⟩
theorem q_anew {f : zF} {K : Int32 → zF → Prop} {A : aPg} (hP : CP f 12 A) (ok : okPg A) {i : Nat} (hi : i < 8) (hR : okR f A i) {X : zX} (hX : kR X (zRi K)) {x1 : Int32} (h1 : (∀ p, p < pP A → fwN A p (vR f i p) (pL A) ≠ 3) → K (nI (smN A (vR f i) (pP A))) (zup f 0 6 0)) (h0 : ¬ (∀ p, p < pP A → fwN A p (vR f i p) (pL A) ≠ 3) → K (-1000000) (zup f 0 6 0)) : Z X mX6_anew 28 [(0, .ref 0), (1, .int x1), (2, .ref (24 + 2 * i)), (3, .int 0), (4, .int 0), (5, .int 0)] [] (zC f) := by
  have h9 := ok.2.2.1
  have h8 := ok.2.1
  have key : ∀ k n, n + k = pP A → (∀ p, p < n → fwN A p (vR f i p) (pL A) ≠ 3) → Z X mX6_anew 28 [(0, .ref 0), (1, .int x1), (2, .ref (24 + 2 * i)), (3, .int 0), (4, .int (nI (smN A (vR f i) n))), (5, .int (nI n))] [] (zC f) := by
    intro k
    induction k with
    | zero =>
      intro n hn hf
      have e : n = pP A := by omega
      refine l_X6_anew_28 (rows_is hi) hX ⟨fun _ => w_X6_unfound ?_, fun q => absurd (by rw [hP.2.2.1, ← hn]; exact Int32.le_refl _) q⟩
      rw [e]
      exact h1 (fun p hp => hf p (by omega))
    | succ k ih =>
      intro n hn hf
      have hp : n < pP A := by omega
      have hv := hR.2.2 n hp
      have hw := fwN_le A n (vR f i n) (pL A)
      refine l_X6_anew_28 (rows_is hi) hX ⟨fun q => absurd q (by rw [hP.2.2.1]; exact nI_ge (by omega) (by omega)), fun _ => q_itemAt hi (by omega) ?_⟩
      rw [hv.2]
      refine q_fewestAnew hP ok hp (by omega) ⟨fun q => ?_, fun q => w_X6_unfound (h0 (fun z => z n hp ((fwI_3 hw).mp q)))⟩
      have q2 : fwN A n (vR f i n) (pL A) ≠ 3 := fun z => q ((fwI_3 hw).mpr z)
      have e : fwI (fwN A n (vR f i n) (pL A)) = nI (fwN A n (vR f i n) (pL A)) := if_neg q2
      rw [e, nI_add, ← nI_succ]
      refine ih (n + 1) (by omega) (fun p hp2 => ?_)
      by_cases z : p = n
      · rw [z]
        exact q2
      · exact hf p (by omega)
  exact key (pP A) 0 (by omega) (fun p hp => absurd hp (by omega))
theorem m_anew {f : zF} {K : Int32 → zF → Prop} {A : aPg} (hM : MP (f 56) 0 A) (ok : okPg A) {i : Nat} (hi : i < 8) {v : Nat → Nat} (hv : ∀ p, p < pP A → v p < pL A ∧ f 55 (40 * i + p) = nI (v p)) {X : zX} (hX : kR X (zRi K)) {x2 : Int32} (h1 : (∀ p, p < pP A → fwN A p (v p) (pL A) ≠ 3) → ∀ f', nz f f' → K (nI (smN A v (pP A))) f') (h0 : ¬ (∀ p, p < pP A → fwN A p (v p) (pL A) ≠ 3) → ∀ f', nz f f' → K (-1000000) f') : Z X mX7_anew 26 [(0, .ref 52), (1, .int (nI i)), (2, .int x2), (3, .int 0), (4, .int 1), (5, .int 0)] [] (zC f) := by
  have h9 := ok.2.2.1
  have h8 := ok.2.1
  have key : ∀ k n g (fl : Int32), n + k = pP A → nz f g → (fl = 1 ∧ (∀ p, p < n → fwN A p (v p) (pL A) ≠ 3) ∨ fl = 0 ∧ ¬ (∀ p, p < pP A → fwN A p (v p) (pL A) ≠ 3)) → Z X mX7_anew 26 [(0, .ref 52), (1, .int (nI i)), (2, .int x2), (3, .int (nI (smN A v n))), (4, .int fl), (5, .int (nI n))] [] (zC g) := by
    intro k
    induction k with
    | zero =>
      intro n g fl hn hg hf
      have e : n = pP A := by omega
      refine l_X7_anew_26 hX ⟨fun _ => ⟨fun q => ?_, fun q => ?_⟩, fun q => absurd (by rw [(MP_nz hg hM).2.2.1, ← hn]; exact Int32.le_refl _) q⟩
      · rcases hf with ⟨rfl, -⟩ | ⟨-, hf⟩
        · exact absurd q (by decide)
        · exact h0 hf g hg
      · rcases hf with ⟨-, hf⟩ | ⟨rfl, -⟩
        · rw [e]
          exact h1 (fun p hp => hf p (by omega)) g hg
        · exact absurd rfl q
    | succ k ih =>
      intro n g fl hn hg hf
      have hp : n < pP A := by omega
      have hMg := MP_nz hg hM
      have hv1 := hv n hp
      have hw := fwN_le A n (v n) (pL A)
      refine l_X7_anew_26 hX ⟨fun q => absurd q (by rw [show g 56 2 = _ from hMg.2.2.1]; exact nI_ge (by omega) (by omega)), fun _ => ?_⟩
      rw [ix40, nI_clamp (by omega), hg.1 55 (by omega), hv1.2]
      refine ⟨vp_in_nI (by omega) (by omega), m_anewAt hMg ok hp (by omega) (fun g2 h2 z1 e1 => ?_)⟩
      rw [nI_add, ← nI_succ]
      refine ih (n + 1) g2 z1 (by omega) (nz_trans hg h2) ?_
      rcases hf with ⟨rfl, hf⟩ | ⟨rfl, hf⟩
      · rw [if_neg (by decide)] at e1
        by_cases z : fwN A n (v n) (pL A) = 3
        · rw [z, if_pos (by decide)] at e1
          exact Or.inr ⟨e1, fun q => q n hp z⟩
        · have z3 : ¬ (3 : Int32) ≤ nI (fwN A n (v n) (pL A)) := nI_ge (a := fwN A n (v n) (pL A)) (b := 3) (by omega) (by omega)
          rw [if_neg z3] at e1
          refine Or.inl ⟨e1, fun p hp2 => ?_⟩
          by_cases y : p = n
          · rw [y]
            exact z
          · exact hf p (by omega)
      · rw [if_pos rfl] at e1
        exact Or.inr ⟨e1, hf⟩
  exact key (pP A) 0 f 1 (by omega) (nz_refl f) (Or.inl ⟨rfl, fun p hp => absurd hp (by omega)⟩)
theorem p_anew : ∀ (a0 : Int32) (f : zF), Inv f → pr2 Inv mX6_anew mX7_anew [.int a0] f := by
  intro a0 f hI K hK
  obtain ⟨A, ok, hP, hM⟩ := Inv_pg hI
  have fin : ∀ r f', nz f f' → K r r f' := fun r f' h => hK r f' (Inv_nz hI h)
  have hM0 := MP_nz (z0 f) hM
  rcases Nat.eq_zero_or_pos (pL A) with hL | hL
  · exact w_X6_anew (fun X hX => third0 hP hL (w_X7_anew (fun X hX => m_barred0 hM0 hL (neg_f (by decide) (fin _ _ (z0 f))))))
  · refine w_X6_anew (fun X hX => third hI ok hP hM hL (fun r f' hr hq hk => w_X7_anew (fun X hX => hk _ (fun f2 h2 => neg_f hr (hK _ _ h2)))) (fun i hi e hR => ?_))
    subst e
    have hv : ∀ p, p < pP A → vR f i p < pL A ∧ (zup (zup (zup f 0 6 0) 52 0 0) 52 1 0) 55 (40 * i + p) = nI (vR f i p) := fun p hp => ⟨(hR.2.2 p hp).1, row55 hi (hI.1 i hi) ok hR hp (iq3 f)⟩
    refine q_anew hP ok hi hR hX (fun q => w_X7_anew (fun X hX => m_free hI ok hM hL hi hR (ze_t (m_anew (MP_iq (iq3 f) hM) ok hi hv hX (fun _ f' h => hK _ _ (Inv3 hI h)) (fun z => absurd q z))))) (fun q => w_X7_anew (fun X hX => m_free hI ok hM hL hi hR (ze_t (m_anew (MP_iq (iq3 f) hM) ok hi hv hX (fun z => absurd z q) (fun _ f' h => hK _ _ (Inv3 hI h))))))
def hmB (A : aPg) (v : Nat → Nat) (p : Nat) : Bool := decide (pRd A (pF A p) (v (pP A - 1 - p)) ≠ pF A p)
def hmN (A : aPg) (v : Nat → Nat) : Nat := cnN (hmB A v) (pP A)
theorem cnN_congr {q q2 : Nat → Bool} : ∀ n, (∀ i, i < n → q i = q2 i) → cnN q n = cnN q2 n
  | 0, _ => rfl
  | n + 1, h => by
    unfold cnN
    rw [cnN_congr n (fun i hi => h i (by omega)), h n (by omega)]
theorem cnN_shift (q : Nat → Bool) : ∀ n, cnN q (n + 1) = cnN (fun i => q (i + 1)) n + (if q 0 then 1 else 0)
  | 0 => by simp [cnN]
  | n + 1 => by
    have ih := cnN_shift q n
    rw [cnN, ih]
    show _ = cnN (fun i => q (i + 1)) n + (if q (n + 1) = true then 1 else 0) + (if q 0 = true then 1 else 0)
    omega
theorem cnN_rev (q : Nat → Bool) : ∀ n, cnN (fun i => q (n - 1 - i)) n = cnN q n
  | 0 => rfl
  | n + 1 => by
    have ih := cnN_rev (fun i => q (i + 1)) n
    rw [cnN_shift q n, ← ih]
    show cnN (fun i => q (n + 1 - 1 - i)) n + (if q (n + 1 - 1 - n) = true then 1 else 0) = _
    rw [show n + 1 - 1 - n = 0 by omega]
    congr 1
    refine cnN_congr n (fun i hi => ?_)
    show q (n + 1 - 1 - i) = q (n - 1 - i + 1)
    congr 1
    omega
theorem hmN_le {A : aPg} (ok : okPg A) (v : Nat → Nat) : hmN A v ≤ 9 := Nat.le_trans (cnN_le _ _) ok.2.2.1
theorem q_harmOf {f : zF} {K : Int32 → zF → Prop} {A : aPg} (hP : CP f 12 A) (ok : okPg A) {i : Nat} (hi : i < 8) (hR : alR f A i) (h : K (nI (hmN A (vR f i))) f) : ci mX2_harmOf [.ref 12, .ref (24 + 2 * i)] f K := by
  refine w_X2_harmOf pg12 (rows_is hi) (fun X hX => ?_)
  have h9 := ok.2.2.1
  have h8 := ok.2.1
  have key : ∀ k n, n + k = pP A → Z X mX2_harmOf 4 [(0, .ref 12), (1, .ref (24 + 2 * i)), (2, .int (nI (cnN (hmB A (vR f i)) n))), (3, .int (nI n))] [] (zC f) := by
    intro k
    induction k with
    | zero =>
      intro n hn
      have e : n = pP A := by omega
      refine l_X2_harmOf_4 pg12 (rows_is hi) hX ⟨fun _ => ?_, fun q => absurd (by rw [hP.2.2.1, ← hn]; exact Int32.le_refl _) q⟩
      rw [e]
      exact h
    | succ k ih =>
      intro n hn
      have hp : n < pP A := by omega
      have hF := (ok.2.2.2.2 n hp).1
      have hv := hR (pP A - 1 - n) (by omega)
      have hr := pRd_lt (A := A) (b := vR f i (pP A - 1 - n)) hF
      have ih := ih (n + 1) (by omega)
      rw [nI_succ n, cnN] at ih
      refine l_X2_harmOf_4 pg12 (rows_is hi) hX ⟨fun q => absurd q (by rw [hP.2.2.1]; exact nI_ge (by omega) (by omega)), fun _ => q_letterAt (s := 0) hP ok (by omega) hp ?_⟩
      rw [hP.2.2.1, nI_bk hp]
      refine q_itemAt hi (by omega) ?_
      rw [hv.2]
      refine q_readOf (a := pF A n) hP ok hF hv.1 ⟨fun q => ?_, fun q => ?_⟩
      · have q2 : pRd A (pF A n) (vR f i (pP A - 1 - n)) = pF A n := (nI_eq (by omega) (by omega)).mp q
        rw [if_neg (by unfold hmB; rw [decide_eq_true_eq]; exact fun z => z q2)] at ih
        exact ih
      · rw [if_pos (by unfold hmB; rw [decide_eq_true_eq]; exact fun z => q (by
          show nI (pRd A (pF A n) (vR f i (pP A - 1 - n))) = nI (pF A n)
          rw [z])), nI_succ] at ih
        exact ih
  exact key (pP A) 0 (by omega)
theorem m_harmOf {f : zF} {K : Int32 → zF → Prop} {A : aPg} (hM : MP (f 56) 0 A) (ok : okPg A) {i : Nat} (hi : i < 8) {v : Nat → Nat} (hv : ∀ p, p < pP A → v p < pL A ∧ f 55 (40 * i + p) = nI (v p)) (h : ∀ f', nz f f' → K (nI (hmN A v)) f') : ci mX7_harmOf [.ref 52, .int (nI i)] f K := by
  refine w_X7_harmOf (fun X hX => ?_)
  have h9 := ok.2.2.1
  have h8 := ok.2.1
  have key : ∀ k n g, n + k = pP A → nz f g → Z X mX7_harmOf 4 [(0, .ref 52), (1, .int (nI i)), (2, .int (nI (cnN (fun i => hmB A v (pP A - 1 - i)) n))), (3, .int (nI n))] [] (zC g) := by
    intro k
    induction k with
    | zero =>
      intro n g hn hg
      have e : n = pP A := by omega
      refine l_X7_harmOf_4 hX ⟨fun _ => ?_, fun q => absurd (by rw [(MP_nz hg hM).2.2.1, ← hn]; exact Int32.le_refl _) q⟩
      rw [e, cnN_rev]
      exact h g hg
    | succ k ih =>
      intro n g hn hg
      have hp : n < pP A := by omega
      have hp2 : pP A - 1 - n < pP A := by omega
      have hMg := MP_nz hg hM
      have hF := (ok.2.2.2.2 (pP A - 1 - n) hp2).1
      have hv1 := hv n hp
      have hr := pRd_lt (A := A) (b := v n) hF
      refine l_X7_harmOf_4 hX ⟨fun q => absurd q (by rw [show g 56 2 = _ from hMg.2.2.1]; exact nI_ge (by omega) (by omega)), fun _ => ?_⟩
      rw [show g 56 2 = _ from hMg.2.2.1, nI_bk hp]
      refine m_on (s := 0) hMg ok (by omega) hp2 ?_
      rw [ix40, nI_clamp (by omega), hg.1 55 (by omega), hv1.2]
      refine ⟨vp_in_nI (by omega) (by omega), m_readBy (a := pF A (pP A - 1 - n)) hMg ok hF hv1.1 (fun g2 h2 z1 e1 => ?_)⟩
      have ih := ih (n + 1) g2 (by omega) (nz_trans hg h2)
      rw [nI_succ n, cnN] at ih
      have e1 : z1 = nI (if hmB A v (pP A - 1 - n) = true then 1 else 0) := by
        rw [e1]
        have eb : pP A - 1 - (pP A - 1 - n) = n := by omega
        show (if nI (pRd A (pF A (pP A - 1 - n)) (v n)) = nI (pF A (pP A - 1 - n)) then (0 : Int32) else 1) = _
        by_cases q : pRd A (pF A (pP A - 1 - n)) (v n) = pF A (pP A - 1 - n)
        · rw [if_pos (by rw [q]), if_neg (by unfold hmB; rw [decide_eq_true_eq, eb]; exact fun z => z q)]; rfl
        · rw [if_neg (fun z => q ((nI_eq (by omega) (by omega)).mp z)), if_pos (by unfold hmB; rw [decide_eq_true_eq, eb]; exact q)]; rfl
      rw [e1, nI_add]
      exact ih
  exact key (pP A) 0 f (by omega) (nz_refl f)
theorem p_harm : ∀ (a0 : Int32) (f : zF), Inv f → pr2 Inv mX6_harm mX7_harm [.int a0] f := by
  intro a0 f hI K hK
  obtain ⟨A, ok, hP, hM⟩ := Inv_pg hI
  have fin : ∀ r f', nz f f' → K r r f' := fun r f' h => hK r f' (Inv_nz hI h)
  have hM0 := MP_nz (z0 f) hM
  rcases Nat.eq_zero_or_pos (pL A) with hL | hL
  · exact w_X6_harm (third0 hP hL (w_X7_harm (m_barred0 hM0 hL (neg_f (by decide) (fin _ _ (z0 f))))))
  · refine w_X6_harm (third hI ok hP hM hL (fun r f' hr hq hk => w_X7_harm (hk _ (fun f2 h2 => neg_f hr (hK _ _ h2)))) (fun i hi e hR => ?_))
    subst e
    have hv : ∀ p, p < pP A → vR f i p < pL A ∧ (zup (zup (zup f 0 6 0) 52 0 0) 52 1 0) 55 (40 * i + p) = nI (vR f i p) := fun p hp => ⟨(hR.2.2 p hp).1, row55 hi (hI.1 i hi) ok hR hp (iq3 f)⟩
    exact q_harmOf hP ok hi hR.2.2 (w_X6_unfound (w_X7_harm (m_free hI ok hM hL hi hR (ze_t (m_harmOf (MP_iq (iq3 f) hM) ok hi hv (fun f' h => hK _ _ (Inv3 hI h)))))))
