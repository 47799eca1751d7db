/-! ===== pairs: a row told ===== -/
def vR (f : zF) (i p : Nat) : Nat := (f (24 + 2 * i + 1) p).toNatClampNeg
def alR (f : zF) (A : aPg) (i : Nat) : Prop := ∀ p, p < pP A → vR f i p < pL A ∧ f (24 + 2 * i + 1) p = nI (vR f i p)
def okR (f : zF) (A : aPg) (i : Nat) : Prop := f 53 i ≠ -1 ∧ (∃ n, n ≤ 40 ∧ f 54 i = nI n ∧ pP A ≤ n) ∧ alR f A i
theorem vR_of {f : zF} {i p v L : Nat} (hL : L ≤ 8) (hv : v < L) (h : f (24 + 2 * i + 1) p = nI v) : vR f i p < L ∧ f (24 + 2 * i + 1) p = nI (vR f i p) := by
  have e : vR f i p = v := by
    unfold vR
    rw [h, nI_clamp (by omega)]
  rw [e]
  exact ⟨hv, h⟩
section
variable {f : zF} {K : Int32 → zF → Prop} {A : aPg} {i : Nat}
theorem q_itemAt {p : Nat} (hi : i < 8) (hp : p < 40) (h : K (f (24 + 2 * i + 1) p) f) : ci mX4_itemAt [.ref (24 + 2 * i), .int (nI p)] f K :=
  w_X4_itemAt (rows_is hi) (q_item (n := 40) (rw_lt1 (rows_is hi)) (rw_sh1 (rows_is hi)) (by omega) hp h)
theorem q_can_loop (hP : CP f 12 A) (ok : okPg A) (hi : i < 8) {X : zX} (hX : kR X (zRi K)) (h1 : alR f A i → K 1 f) (h0 : ¬ alR f A i → K 0 f) : Z X mX2_canBeABack 22 [(0, .ref 12), (1, .ref (24 + 2 * i)), (2, .int 0)] [] (zC f) := by
  have h9 := ok.2.2.1
  have h8 := ok.2.1
  have key : ∀ k n, n + k = pP A → (∀ p, p < n → vR f i p < pL A ∧ f (24 + 2 * i + 1) p = nI (vR f i p)) → Z X mX2_canBeABack 22 [(0, .ref 12), (1, .ref (24 + 2 * i)), (2, .int (nI n))] [] (zC f) := by
    intro k
    induction k with
    | zero =>
      intro n hn hv
      refine l_X2_canBeABack_22 pg12 (rows_is hi) hX ⟨fun _ => h1 (fun p hp => hv p (by omega)), fun q => absurd (by rw [hP.2.2.1, ← hn]; exact Int32.le_refl _) q⟩
    | succ k ih =>
      intro n hn hv
      refine l_X2_canBeABack_22 pg12 (rows_is hi) hX ⟨fun q => absurd q (by rw [hP.2.2.1]; exact nI_ge (by omega) (by omega)), fun _ => q_itemAt hi (by omega) ?_⟩
      rcases inOut (f (24 + 2 * i + 1) n) (n := pL A) (by omega) with hx | ⟨v, hv1, e⟩
      · refine q_hasLetter_f hP hx (y0' (h0 (fun q => ?_)))
        have q := q n (by omega)
        exact out_ne (by omega) hx _ q.1 q.2
      · rw [e]
        refine q_hasLetter_t hP ok hv1 (y1' ?_)
        rw [← nI_succ]
        refine ih (n + 1) (by omega) (fun p hp => ?_)
        by_cases z : p = n
        · rw [z]
          exact vR_of h8 hv1 e
        · exact hv p (by omega)
  exact key (pP A) 0 (by omega) (fun p hp => absurd hp (by omega))
theorem q_can (hP : CP f 12 A) (ok : okPg A) (hi : i < 8) (hR : iRw f i) (h1 : okR f A i → K 1 f) (h0 : ¬ okR f A i → K 0 f) : ci mX2_canBeABack [.ref 12, .ref (24 + 2 * i)] f K := by
  have h9 := ok.2.2.1
  refine w_X2_canBeABack pg12 (rows_is hi) (fun X hX => q_isMissing hi hR (fun hm => y0' ?_) (fun hm => y1' (h0 (fun q => q.1 hm))))
  obtain ⟨l1, n, hn, l2⟩ := hR.2.2.1 hm
  rw [hP.2.2.1, l1, l2]
  refine ⟨fun q => ?_, fun q => h0 (fun z => ?_)⟩
  · have q := (nI_leI (by omega) (by omega)).mp q
    exact q_can_loop hP ok hi hX (fun z => h1 ⟨hm, ⟨n, hn, l2, q⟩, z⟩) (fun z => h0 (fun w => z w.2.2))
  · obtain ⟨-, ⟨n2, x1, x2, x3⟩, -⟩ := z
    have e := (nI_eq (by omega) (by omega)).mp (l2.symm.trans x2)
    exact q (nI_le (by omega) (by omega))
theorem m_hasL (hM : MP (f 56) 0 A) (ok : okPg A) (hi : i < 8) (hR : iRw f i) (h1 : alR f A i → K 1 f) (h0 : ¬ alR f A i → K 0 f) : ci mX7_hasLetters [.ref 52, .int (nI i)] f K := by
  have h9 := ok.2.2.1
  have h8 := ok.2.1
  refine w_X7_hasLetters (fun X hX => ?_)
  have low : ¬ alR f A i → ∀ k n, n + k = pP A → Z X mX7_hasLetters 4 [(0, .ref 52), (1, .int (nI i)), (2, .int 0), (3, .int (nI n))] [] (zC f) := by
    intro hn0 k
    induction k with
    | zero =>
      intro n hn
      exact l_X7_hasLetters_4 hX ⟨fun _ => ⟨nb0, h0 hn0⟩, fun q => absurd (by rw [show f 56 2 = _ from hM.2.2.1, ← hn]; exact Int32.le_refl _) q⟩
    | succ k ih =>
      intro n hn
      refine l_X7_hasLetters_4 hX ⟨fun q => absurd q (by rw [show f 56 2 = _ from hM.2.2.1]; exact nI_ge (by omega) (by omega)), fun _ => y0 ?_⟩
      rw [← nI_succ]
      exact ih (n + 1) (by omega)
  have key : ∀ k n, n + k = pP A → (∀ p, p < n → vR f i p < pL A ∧ f (24 + 2 * i + 1) p = nI (vR f i p)) → Z X mX7_hasLetters 4 [(0, .ref 52), (1, .int (nI i)), (2, .int 1), (3, .int (nI n))] [] (zC f) := by
    intro k
    induction k with
    | zero =>
      intro n hn hv
      exact l_X7_hasLetters_4 hX ⟨fun _ => ⟨nb1, h1 (fun p hp => hv p (by omega))⟩, fun q => absurd (by rw [show f 56 2 = _ from hM.2.2.1, ← hn]; exact Int32.le_refl _) q⟩
    | succ k ih =>
      intro n hn hv
      refine l_X7_hasLetters_4 hX ⟨fun q => absurd q (by rw [show f 56 2 = _ from hM.2.2.1]; exact nI_ge (by omega) (by omega)), fun _ => y1 ?_⟩
      have e : 40 * nI i + nI n = nI (40 * i + n) := by rw [show (40 : Int32) = nI 40 from rfl, pk_mul, nI_add]
      rw [e, nI_clamp (by omega), ← hR.2.2.2 n (by omega), ← nI_succ]
      refine ⟨vp_in_nI (by omega) (by omega), ?_⟩
      rcases inOut (f (24 + 2 * i + 1) n) (n := pL A) (by omega) with hx | ⟨v, hv1, e⟩
      · refine m_isOne_f hM ok hx (fun z1 e1 => ?_)
        rw [e1, if_pos rfl]
        refine low (fun q => ?_) k (n + 1) (by omega)
        have q := q n (by omega)
        exact out_ne (by omega) hx _ q.1 q.2
      · rw [e]
        refine m_isOne_t hM ok hv1 (fun z1 e1 => ?_)
        rw [e1, if_neg (by decide)]
        refine ih (n + 1) (by omega) (fun p hp => ?_)
        by_cases z : p = n
        · rw [z]
          exact vR_of h8 hv1 e
        · exact hv p (by omega)
  exact key (pP A) 0 (by omega) (fun p hp => absurd hp (by omega))
theorem m_barred0 {x y : Int32} (hM : MP (f 56) 0 A) (hL : pL A = 0) (h : K (-1000002) f) : ci mX7_barred [.ref 52, .int x, .int y] f K := w_X7_barred (m_isThere_f hM hL (y0' h))
theorem m_barred_out {x y : Int32} (hM : MP (f 56) 0 A) (ok : okPg A) (hL : 0 < pL A) (hx : outI x 8) (h : K (-1000001) f) : ci mX7_barred [.ref 52, .int x, .int y] f K := w_X7_barred (m_isThere_t hM ok hL (y1' (m_isRow_f hx (y0 h))))
theorem m_barred_p {x : Int32} (hM : MP (f 56) 0 A) (ok : okPg A) (hL : 0 < pL A) (h : K (-1000001) f) : ci mX7_barred [.ref 52, .int x, .int 0] f K := by
  refine w_X7_barred (m_isThere_t hM ok hL (y1' ?_))
  rcases inOut x (n := 8) (by omega) with hx | ⟨i, hi, rfl⟩
  · exact m_isRow_f hx (y0 h)
  · exact m_isRow_t hi (y1 (y0' h))
theorem m_barred (hM : MP (f 56) 0 A) (ok : okPg A) (hL : 0 < pL A) (hi : i < 8) (hR : iRw f i) (hm : f 53 i = -1 → K (-1000010 - 1) (zup f 52 1 1)) (hs : f 53 i ≠ -1 → (∀ n, n ≤ 40 → f 54 i = nI n → n < pP A) → K (-1000010 - 2) (zup f 52 1 2)) (hb : f 53 i ≠ -1 → (∃ n, n ≤ 40 ∧ f 54 i = nI n ∧ pP A ≤ n) → ¬ alR f A i → K (-1000001) f) (h1 : okR f A i → K 0 (zup f 52 1 0)) : ci mX7_barred [.ref 52, .int (nI i), .int 1] f K := by
  have h9 := ok.2.2.1
  refine w_X7_barred (m_isThere_t hM ok hL (y1' (m_isRow_t hi (y1 (y1' ⟨vp_in_nI hi (by omega), ?_⟩)))))
  rw [nI_clamp (by omega)]
  refine ⟨fun q => ⟨vp_in_nI hi (by omega), ?_⟩, fun q => w_X7_finding (hm ?_)⟩
  · have q := (ln_pos hR.2.1).mp q
    obtain ⟨-, n, hn, l2⟩ := hR.2.2.1 q
    rw [show f 56 2 = _ from hM.2.2.1, l2]
    refine ⟨fun q2 => ?_, fun q2 => w_X7_finding (hs q (fun m hm2 e => ?_))⟩
    · have q2 := (nI_leI (by omega) (by omega)).mp q2
      exact m_hasL hM ok hi hR (fun z => y1' (h1 ⟨q, ⟨n, hn, l2, q2⟩, z⟩)) (fun z => y0' (hb q ⟨n, hn, l2, q2⟩ z))
    · have e2 := (nI_eq (by omega) (by omega)).mp (l2.symm.trans e)
      rw [← e2]
      exact Nat.lt_of_not_le (fun z => q2 (nI_le z (by omega)))
  · by_cases z : f 53 i = -1
    · exact z
    · exact absurd ((ln_pos hR.2.1).mpr z) q
theorem q_ref (hP : CP f 12 A) (ok : okPg A) (hL : 0 < pL A) (hi : i < 8) (hR : iRw f i) (hm : f 53 i = -1 → K (-1000010 - 1) (zup f 0 6 1)) (hs : f 53 i ≠ -1 → (∀ n, n ≤ 40 → f 54 i = nI n → n < pP A) → K (-1000010 - 2) (zup f 0 6 2)) (hb : f 53 i ≠ -1 → (∃ n, n ≤ 40 ∧ f 54 i = nI n ∧ pP A ≤ n) → ¬ alR f A i → K (-1000001) f) (h1 : okR f A i → K 0 f) : ci mX6_refusalOfLetters [.ref 0, .ref (24 + 2 * i)] f K := by
  have h9 := ok.2.2.1
  refine w_X6_refusalOfLetters (rows_is hi) (q_isThere_t hP ok hL (y1' (q_isMissing hi hR (fun q => y0 ?_) (fun q => y1 (w_X6_found (hm q))))))
  obtain ⟨l1, n, hn, l2⟩ := hR.2.2.1 q
  rw [hP.2.2.1, l1, l2]
  refine ⟨fun q2 => ?_, fun q2 => w_X6_found (hs q (fun m hm2 e => ?_))⟩
  · have q2 := (nI_leI (by omega) (by omega)).mp q2
    exact q_can hP ok hi hR (fun z => y1 (h1 z)) (fun z => y0 (hb q ⟨n, hn, l2, q2⟩ (fun w => z ⟨q, ⟨n, hn, l2, q2⟩, w⟩)))
  · have e2 := (nI_eq (by omega) (by omega)).mp (l2.symm.trans e)
    rw [← e2]
    exact Nat.lt_of_not_le (fun z => q2 (nI_le z (by omega)))
end
theorem alR_iq {f g : zF} {A : aPg} {i : Nat} (hi : i < 8) (h : iq f g) : alR g A i ↔ alR f A i := by
  unfold alR vR
  rw [h.1 (24 + 2 * i + 1) (by omega) (by omega)]
theorem iRw_iq {f g : zF} {i : Nat} (hi : i < 8) (h : iq f g) (a : iRw f i) : iRw g i := by
  unfold iRw at a ⊢
  rw [h.1 53 (by omega) (by omega), h.1 54 (by omega) (by omega), h.1 55 (by omega) (by omega), h.1 (24 + 2 * i) (by omega) (by omega), h.1 (24 + 2 * i + 1) (by omega) (by omega)]
  exact a
theorem MP_iq {f g : zF} {A : aPg} (h : iq f g) (hM : MP (f 56) 0 A) : MP (g 56) 0 A := by
  rw [h.1 56 (by omega) (by omega)]
  exact hM
/-- refused by both, or told to both -/
theorem third {f : zF} (hI : Inv f) {A : aPg} (ok : okPg A) (hP : CP f 12 A) (hM : MP (f 56) 0 A) (hL : 0 < pL A) {x : Int32} {KC : Int32 → zF → Prop} {B : Nat → Int32 → zF → Prop}
    (hr : ∀ r f', r < 0 → iq f f' → (∀ KM : Int32 → zF → Prop, (∀ f2, Inv f2 → KM r f2) → ci mX7_barred [.ref 52, .int x, .int 1] (zup f' 52 0 0) KM) → KC r f')
    (hb : ∀ i, i < 8 → x = nI i → okR f A i → B (24 + 2 * i) 0 f) :
    cq mX6_rowOf [.ref 0, .int x] f (fun r1 f1 => (r1 = none → ci mX6_refusalOfLetters [.ref 0, .null] f1 (fun r2 f2 => KC r2 f2)) ∧ (∀ k1, r1 = some k1 → (isRow k1 ∧ ci mX6_refusalOfLetters [.ref 0, .ref k1] f1 (fun r3 f3 => ((r3 = 0 → B k1 r3 f3) ∧ (¬ r3 = 0 → KC r3 f3)))))) := by
  have hM0 : ∀ v, MP ((zup (zup f 0 6 v) 52 0 0) 56) 0 A := fun v => MP_iq (iq_52 (iq_0 (iq_refl f)) (by omega)) hM
  rcases inOut x (n := 8) (by omega) with hx | ⟨i, hi, rfl⟩
  · exact q_rowOf_f hx ⟨fun _ => w_X6_refusalOfLetters_null (q_isThere_t hP ok hL (y1' (hr _ _ (by decide) (iq_refl f) (fun KM hk => m_barred_out (MP_nz (z0 f) hM) ok hL hx (hk _ (Inv_nz hI (z0 f))))))), fun k1 e1 => (nomatch e1)⟩
  · refine q_rowOf hi ⟨fun c => (nomatch c), fun k1 e1 => ?_⟩
    obtain rfl := Option.some.inj e1
    have hR := hI.1 i hi
    have e53 : ∀ v, (zup (zup f 0 6 v) 52 0 0) 53 = f 53 := fun v => by rw [zup_ne (by omega), zup_ne (by omega)]
    have e54 : ∀ v, (zup (zup f 0 6 v) 52 0 0) 54 = f 54 := fun v => by rw [zup_ne (by omega), zup_ne (by omega)]
    have w53 : (zup f 52 0 0) 53 = f 53 := by rw [zup_ne (by omega)]
    have w54 : (zup f 52 0 0) 54 = f 54 := by rw [zup_ne (by omega)]
    refine ⟨rows_is hi, q_ref hP ok hL hi hR (fun q => ⟨fun c => absurd c (by decide), fun _ => hr _ _ (by decide) (iq_0 (iq_refl f)) (fun KM hk => ?_)⟩) (fun q q2 => ⟨fun c => absurd c (by decide), fun _ => hr _ _ (by decide) (iq_0 (iq_refl f)) (fun KM hk => ?_)⟩) (fun q q2 q3 => ⟨fun c => absurd c (by decide), fun _ => hr _ _ (by decide) (iq_refl f) (fun KM hk => ?_)⟩) (fun q => y0 (hb i hi rfl q))⟩
    · refine m_barred (hM0 _) ok hL hi (iRw_iq hi (iq_52 (iq_0 (iq_refl f)) (by omega)) hR) (fun _ => hk _ (st_eq (v := 1) (iq_52 (iq_52 (iq_refl _) (by omega)) (by omega)) ?_ up_at hI)) (fun z _ => ?_) (fun z _ _ => ?_) (fun z => ?_)
      · rw [zup_ne (by omega), zup_ne (by omega)]
        exact up_at
      · rw [e53] at z
        exact absurd q z
      · rw [e53] at z
        exact absurd q z
      · exact absurd q (by have := z.1; rwa [e53] at this)
    · refine m_barred (hM0 _) ok hL hi (iRw_iq hi (iq_52 (iq_0 (iq_refl f)) (by omega)) hR) (fun z => ?_) (fun _ _ => hk _ (st_eq (v := 2) (iq_52 (iq_52 (iq_refl _) (by omega)) (by omega)) ?_ up_at hI)) (fun _ z _ => ?_) (fun z => ?_)
      · rw [e53] at z
        exact absurd z q
      · rw [zup_ne (by omega), zup_ne (by omega)]
        exact up_at
      · obtain ⟨n, n1, n2, n3⟩ := z
        rw [e54] at n2
        have := q2 n n1 n2
        omega
      · obtain ⟨n, n1, n2, n3⟩ := z.2.1
        rw [e54] at n2
        have := q2 n n1 n2
        omega
    · refine m_barred (MP_nz (z0 f) hM) ok hL hi (iRw_iq hi (iq_52 (iq_refl f) (by omega)) hR) (fun z => ?_) (fun _ z => ?_) (fun _ _ _ => hk _ (Inv_nz hI (z0 f))) (fun z => ?_)
      · rw [w53] at z
        exact absurd z q
      · obtain ⟨n, n1, n2, n3⟩ := q2
        have := z n n1 (by rw [w54]; exact n2)
        omega
      · exact absurd ((alR_iq hi (iq_52 (iq_refl f) (by omega))).mp z.2.2) q3
theorem third0 {f : zF} {A : aPg} (hP : CP f 12 A) (hL : pL A = 0) {x : Int32} {KC : Int32 → zF → Prop} {B : Nat → Int32 → zF → Prop} (h : KC (-1000002) f) :
    cq mX6_rowOf [.ref 0, .int x] f (fun r1 f1 => (r1 = none → ci mX6_refusalOfLetters [.ref 0, .null] f1 (fun r2 f2 => KC r2 f2)) ∧ (∀ k1, r1 = some k1 → (isRow k1 ∧ ci mX6_refusalOfLetters [.ref 0, .ref k1] f1 (fun r3 f3 => ((r3 = 0 → B k1 r3 f3) ∧ (¬ r3 = 0 → KC r3 f3)))))) := by
  rcases inOut x (n := 8) (by omega) with hx | ⟨i, hi, rfl⟩
  · exact q_rowOf_f hx ⟨fun _ => w_X6_refusalOfLetters_null (q_isThere_f hP hL (y0' h)), fun k1 e1 => (nomatch e1)⟩
  · refine q_rowOf hi ⟨fun c => (nomatch c), fun k1 e1 => ?_⟩
    obtain rfl := Option.some.inj e1
    exact ⟨rows_is hi, w_X6_refusalOfLetters (rows_is hi) (q_isThere_f hP hL (y0' ⟨fun c => absurd c (by decide), fun _ => h⟩))⟩
/-- the reference is not barred, once the class has said 0 -/
theorem m_free {f : zF} {K : Int32 → zF → Prop} {A : aPg} (hI : Inv f) (ok : okPg A) (hM : MP (f 56) 0 A) (hL : 0 < pL A) {i : Nat} (hi : i < 8) (hR : okR f A i) (h : K 0 (zup (zup (zup f 0 6 0) 52 0 0) 52 1 0)) : ci mX7_barred [.ref 52, .int (nI i), .int 1] (zup (zup f 0 6 0) 52 0 0) K := by
  have iq1 : iq f (zup (zup f 0 6 0) 52 0 0) := iq_52 (iq_0 (iq_refl f)) (by omega)
  refine m_barred (MP_iq iq1 hM) ok hL hi (iRw_iq hi iq1 (hI.1 i hi)) (fun z => ?_) (fun _ z => ?_) (fun _ _ z => ?_) (fun _ => h)
  · rw [iq1.1 53 (by omega) (by omega)] at z
    exact absurd z hR.1
  · obtain ⟨n, n1, n2, n3⟩ := hR.2.1
    have := z n n1 (by rw [iq1.1 54 (by omega) (by omega)]; exact n2)
    omega
  · exact absurd ((alR_iq hi iq1).mpr hR.2.2) z
theorem row55 {f : zF} {A : aPg} {i p : Nat} (hi : i < 8) (hI : iRw f i) (ok : okPg A) (hR : okR f A i) (hp : p < pP A) {g : zF} (h : iq f g) : g 55 (40 * i + p) = nI (vR f i p) := by
  have h9 := ok.2.2.1
  rw [h.1 55 (by omega) (by omega), ← hI.2.2.2 p (by omega)]
  exact (hR.2.2 p hp).2
