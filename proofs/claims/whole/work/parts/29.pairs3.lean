/-! ===== pairs: as, count, rows ===== -/
theorem isOf_eq (k a : Nat) : (if a = 0 ∨ a = k ∨ (a = 1 ∧ (k = 1 ∨ k = 2 ∨ k = 3)) ∨ (a = 4 ∧ (k = 4 ∨ k = 5)) then (1 : Int32) else 0) = (if a = 0 ∨ a = k ∨ (a = 1 ∧ (k = 1 ∨ k = 2 ∨ k = 3)) ∨ (a = 4 ∧ (k = 4 ∨ k = 5)) then (1 : Int32) else 0) := rfl
def isK (k a : Nat) : Int32 := if a = 0 ∨ a = k ∨ (a = 1 ∧ k < 4) ∨ (a = 4 ∧ k = 5) then 1 else 0
theorem q_isOfKind {f : zF} {K : Int32 → zF → Prop} : ∀ k a, 1 ≤ k → k ≤ 5 → a < 6 → K (isK k a) f → ci mX6_isOfKind [.int (nI k), .int (nI a)] f K := by
  intro k a h1 h2 h3 h
  refine w_X6_isOfKind (fun z1 e1 z2 e2 => ?_)
  subst e1 e2
  rcases (show k = 1 ∨ k = 2 ∨ k = 3 ∨ k = 4 ∨ k = 5 by omega) with rfl | rfl | rfl | rfl | rfl <;> rcases (show a = 0 ∨ a = 1 ∨ a = 2 ∨ a = 3 ∨ a = 4 ∨ a = 5 by omega) with rfl | rfl | rfl | rfl | rfl | rfl <;> (simp (config := { decide := true }) [isK] at h ⊢; exact h)
theorem m_isOf {f : zF} {K : Int32 → zF → Prop} : ∀ k a, 1 ≤ k → k ≤ 5 → a < 6 → K (isK k a) f → ci mX7_isOf [.int (nI k), .int (nI a)] f K := by
  intro k a h1 h2 h3 h
  refine w_X7_isOf ?_
  rcases (show k = 1 ∨ k = 2 ∨ k = 3 ∨ k = 4 ∨ k = 5 by omega) with rfl | rfl | rfl | rfl | rfl <;> rcases (show a = 0 ∨ a = 1 ∨ a = 2 ∨ a = 3 ∨ a = 4 ∨ a = 5 by omega) with rfl | rfl | rfl | rfl | rfl | rfl <;> (simp (config := { decide := true }) [isK] at h ⊢; exact h)
theorem st_eq {f g : zF} {v : Int32} (h : iq (zup f 0 6 v) g) (h0 : g 0 6 = v) (h1 : g 52 1 = v) (hI : Inv f) : Inv g := by
  refine Inv_iq hI ⟨fun c a b => ?_, fun j a b c d => ?_⟩ (by rw [h0, h1])
  · rw [h.1 c a b, zup_ne b]
  · rw [h.2 j a b c d, zup_ne (by omega)]
theorem up_at {f : zF} {k j : Nat} {v : Int32} : zup f k j v k j = v := by
  rw [zup_eq]
  exact if_pos rfl
theorem up_sl {f : zF} {k j i : Nat} {v : Int32} (h : i ≠ j) : zup f k j v k i = f k i := by
  rw [zup_eq]
  exact if_neg h
theorem p_as : ∀ (a0 a1 : Int32) (f : zF), Inv f → pr2 Inv mX6_as mX7_as [.int a0, .int a1] f := by
  intro a0 a1 f hI K hK
  obtain ⟨A, ok, hP, hM⟩ := Inv_pg hI
  have fin : ∀ r f', nz f f' → K r r f' := fun r f' h => hK r f' (Inv_nz hI h)
  have hM0 := MP_nz (z0 f) hM
  have h8 := ok.2.1
  rcases inOut a0 (n := pL A) (by omega) with h0 | ⟨l, hl, rfl⟩
  · exact w_X6_as (q_hasLetter_f hP h0 (y0 (w_X7_as (m_isOne_f hM0 ok h0 (y0 (fin _ _ (z0 f)))))))
  · refine w_X6_as (q_hasLetter_t hP ok hl (y1 ?_))
    rcases inOut a1 (n := 6) (by omega) with h1 | ⟨a, ha, rfl⟩
    · have e : ci mX7_as [.ref 52, .int (nI l), .int a1] f (fun r2 f2 => K (-1000001) r2 f2) := w_X7_as (m_isOne_t hM0 ok hl (y1 (m_in0_f h1 (by omega) rfl (y0' (fin _ _ (z0 f))))))
      refine ⟨fun _ => e, fun c => ⟨fun c2 => ?_, fun _ => e⟩⟩
      exact (Int32.lt_irrefl (Int32.lt_of_lt_of_le (outI_512 (n := 5) (by omega) h1 c) c2)).elim
    · refine ⟨fun c => absurd c (nI_pos (by omega)), fun _ => ⟨fun _ => ?_, fun c => absurd (nI_le (a := a) (b := 5) (by omega) (by omega)) c⟩⟩
      have hk := ok.2.2.2.1 l hl
      refine q_kindOf hP ok hl (q_isOfKind _ _ hk.1 hk.2.1 ha ?_)
      -- the reference, from a class that found v
      have m : ∀ (v : Int32) (r : Int32), (isK (pK A l) a = 0 → r = -1000010 - 3 ∧ v = 3) → (isK (pK A l) a = 1 → r = nI l ∧ v = 0) → (isK (pK A l) a = 0 ∨ isK (pK A l) a = 1) → ci mX7_as [.ref 52, .int (nI l), .int (nI a)] (zup f 0 6 v) (fun r2 f2 => K r r2 f2) := by
        intro v r k0 k1 hb
        have hMv : MP ((zup (zup f 0 6 v) 52 0 0) 56) 0 A := by rw [zup_ne (by omega), zup_ne (by omega)]; exact hM
        have hMw : MP ((zup (zup (zup f 0 6 v) 52 0 0) 52 1 0) 56) 0 A := by rw [zup_ne (by omega)]; exact hMv
        refine w_X7_as (m_isOne_t hMv ok hl (y1 (m_in0_t ha (by omega) rfl (y1' (m_kindOf hMw ok hl (m_isOf _ _ hk.1 hk.2.1 ha ?_))))))
        have iq0 : iq (zup f 0 6 v) (zup (zup (zup f 0 6 v) 52 0 0) 52 1 0) := iq_52 (iq_52 (iq_refl _) (by omega)) (by omega)
        rcases hb with hb | hb
        · obtain ⟨rfl, rfl⟩ := k0 hb
          rw [hb]
          refine y0 (w_X7_finding (hK _ _ (st_eq (v := 3) (iq_52 iq0 (by omega)) ?_ up_at hI)))
          rw [zup_ne (by omega), zup_ne (by omega), zup_ne (by omega)]
          exact up_at
        · obtain ⟨rfl, rfl⟩ := k1 hb
          rw [hb]
          refine y1 (hK _ _ (st_eq (v := 0) iq0 ?_ up_at hI))
          rw [zup_ne (by omega), zup_ne (by omega)]
          exact up_at
      have hb : isK (pK A l) a = 0 ∨ isK (pK A l) a = 1 := by
        unfold isK
        split
        · exact Or.inr rfl
        · exact Or.inl rfl
      rcases hb with hb | hb
      · rw [hb]
        exact y0 (w_X6_found (m 3 _ (fun _ => ⟨rfl, rfl⟩) (fun z => absurd (hb.symm.trans z) (by decide)) (Or.inl hb)))
      · rw [hb]
        exact y1 (w_X6_unfound (m 0 _ (fun z => absurd (hb.symm.trans z) (by decide)) (fun _ => ⟨rfl, rfl⟩) (Or.inr hb)))
/-- the places whose letter reads as itself -/
def lfB (A : aPg) (p : Nat) : Bool := decide (pRd A (pF A p) (pB A (pP A - 1 - p)) = pF A p)
theorem q_left {f : zF} {K : Int32 → zF → Prop} {A : aPg} (hP : CP f 12 A) (ok : okPg A) (h : K (nI (cnN (lfB A) (pP A))) f) : ci mX2_placesLeftAsTheyStand [.ref 12] f K := by
  refine w_X2_placesLeftAsTheyStand pg12 (fun X hX => ?_)
  have h9 := ok.2.2.1
  have h8 := ok.2.1
  have key : ∀ k n, n + k = pP A → Z X mX2_placesLeftAsTheyStand 4 [(0, .ref 12), (1, .int (nI (cnN (lfB A) n))), (2, .int (nI n))] [] (zC f) := by
    intro k
    induction k with
    | zero =>
      intro n hn
      have e : n = pP A := by omega
      refine l_X2_placesLeftAsTheyStand_4 pg12 hX ⟨fun _ => ?_, fun q => absurd (by rw [hP.2.2.1, ← hn]; exact Int32.le_refl _) q⟩
      rw [e]
      exact h
    | succ k ih =>
      intro n hn
      have hp : n < pP A := by omega
      have hF := (ok.2.2.2.2 n hp).1
      have hr := pRd_lt (A := A) (b := pB A (pP A - 1 - n)) hF
      have ih := ih (n + 1) (by omega)
      rw [nI_succ n, cnN] at ih
      refine l_X2_placesLeftAsTheyStand_4 pg12 hX ⟨fun q => absurd q (by rw [hP.2.2.1]; exact nI_ge (by omega) (by omega)), fun _ => ?_⟩
      refine q_shownByLight (s := 0) hP ok (by omega) hp (q_nearest hP ok (pLi_lt ok hp) (q_letterAt (s := 0) hP ok (by omega) hp ⟨fun q => ?_, fun q => ?_⟩))
      · rw [if_neg (by unfold lfB; rw [decide_eq_true_eq]; exact fun z => q (by
          show nI (pRd A (pF A n) (pB A (pP A - 1 - n))) = nI (pF A n)
          rw [z]))] at ih
        exact ih
      · have q2 : pRd A (pF A n) (pB A (pP A - 1 - n)) = pF A n := (nI_eq (by omega) (by omega)).mp q
        rw [if_pos (by unfold lfB; rw [decide_eq_true_eq]; exact q2), nI_succ] at ih
        exact ih
  exact key (pP A) 0 (by omega)
theorem m_left {f : zF} {K : Int32 → zF → Prop} {A : aPg} (hM : MP (f 56) 0 A) (ok : okPg A) {X : zX} (hX : kR X (zRi K)) {x : Int32} (h : ∀ f', nz f f' → K (nI (cnN (lfB A) (pP A))) f') : Z X mX7_count 97 [(0, .ref 52), (1, .int x), (2, .int 0), (3, .int 0)] [] (zC f) := by
  have h9 := ok.2.2.1
  have h8 := ok.2.1
  have key : ∀ k n g, n + k = pP A → nz f g → Z X mX7_count 97 [(0, .ref 52), (1, .int x), (2, .int (nI (cnN (lfB A) n))), (3, .int (nI n))] [] (zC g) := by
    intro k
    induction k with
    | zero =>
      intro n g hn hg
      have e : n = pP A := by omega
      refine l_X7_count_97 hX ⟨fun _ => ?_, fun q => absurd (by rw [(MP_nz hg hM).2.2.1, ← hn]; exact Int32.le_refl _) q⟩
      rw [e]
      exact h g hg
    | succ k ih =>
      intro n g hn hg
      have hMg := MP_nz hg hM
      have hp : n < pP A := by omega
      have hF := (ok.2.2.2.2 n hp).1
      have hB := (ok.2.2.2.2 (pP A - 1 - n) (by omega)).2
      have hr := pRd_lt (A := A) (b := pB A (pP A - 1 - n)) hF
      refine l_X7_count_97 hX ⟨fun q => absurd q (by rw [show g 56 2 = _ from hMg.2.2.1]; exact nI_ge (by omega) (by omega)), fun _ => ?_⟩
      refine m_on (s := 0) hMg ok (by omega) hp (m_behindOf (s := 0) hMg ok (by omega) hp (m_readBy hMg ok (by exact hF) (by exact hB) (fun g2 hg2 => m_on (s := 0) (MP_nz hg2 hMg) ok (by omega) hp (fun z1 e1 => ?_))))
      have ih := ih (n + 1) g2 (by omega) (nz_trans hg hg2)
      rw [nI_succ n, cnN] at ih
      have e1 : z1 = nI (if lfB A n = true then 1 else 0) := by
        rw [e1]
        show (if nI (pRd A (pF A n) (pB A (pP A - 1 - n))) = nI (pF A n) then (1 : Int32) else 0) = _
        by_cases q : pRd A (pF A n) (pB A (pP A - 1 - n)) = pF A n
        · rw [if_pos (by rw [q]), if_pos (by unfold lfB; rw [decide_eq_true_eq]; exact q)]; rfl
        · rw [if_neg (fun z => q ((nI_eq (by omega) (by omega)).mp z)), if_neg (by unfold lfB; rw [decide_eq_true_eq]; exact q)]; rfl
      rw [e1, nI_add]
      exact ih
  exact key (pP A) 0 f (by omega) (nz_refl f)
theorem q_rowOf {f : zF} {K : Option Nat → zF → Prop} {i : Nat} (hi : i < 8) (h : K (some (24 + 2 * i)) f) : cq mX6_rowOf [.ref 0, .int (nI i)] f K := by
  refine w_X6_rowOf ⟨fun c => absurd c (nI_pos (by omega)), fun _ => ⟨fun c => absurd c (nI_ge (b := 8) hi (by omega)), fun _ => ⟨vp_in_nI hi (by omega), ?_⟩⟩⟩
  rw [nI_clamp (by omega)]
  exact h
theorem q_rowOf_f {f : zF} {K : Option Nat → zF → Prop} {x : Int32} (hx : outI x 8) (h : K none f) : cq mX6_rowOf [.ref 0, .int x] f K :=
  w_X6_rowOf ⟨fun _ => h, fun c => ⟨fun _ => h, fun c2 => (hx.elim c c2).elim⟩⟩
/-- rows that are there -/
def thB (f : zF) (i : Nat) : Bool := decide (f 53 i ≠ -1)
theorem ln_neg {x : Int32} (h : x = -1 ∨ x = 0 ∨ x = 1 ∨ x = 2) : x < 0 ↔ x = -1 := by
  rcases h with rfl | rfl | rfl | rfl <;> decide
theorem ln_pos {x : Int32} (h : x = -1 ∨ x = 0 ∨ x = 1 ∨ x = 2) : 0 ≤ x ↔ ¬ x = -1 := by
  rcases h with rfl | rfl | rfl | rfl <;> decide
theorem q_isMissing {f : zF} {K : Int32 → zF → Prop} {i : Nat} (hi : i < 8) (hR : iRw f i) (h0 : f 53 i ≠ -1 → K 0 f) (h1 : f 53 i = -1 → K 1 f) : ci mX4_isMissing [.ref (24 + 2 * i)] f K := by
  refine w_X4_isMissing (rows_is hi) ⟨fun c => h0 ?_, fun c => h1 ?_⟩
  · rw [← hR.1]
    exact c
  · rw [← hR.1]
    exact c
theorem q_rowsThere {f : zF} {K : Int32 → zF → Prop} (hR : iRows f) (h : K (nI (cnN (thB f) 8)) f) : ci mX6_rowsThere [.ref 0] f K := by
  refine w_X6_rowsThere (fun X hX => ?_)
  have key : ∀ k n, n + k = 8 → Z X mX6_rowsThere 4 [(0, .ref 0), (1, .int (nI (cnN (thB f) n))), (2, .int (nI n))] [] (zC f) := by
    intro k
    induction k with
    | zero =>
      intro n hn
      have e : n = 8 := by omega
      subst e
      exact l_X6_rowsThere_4 hX ⟨fun _ => h, fun q => absurd (Int32.le_refl _) q⟩
    | succ k ih =>
      intro n hn
      have ih := ih (n + 1) (by omega)
      rw [nI_succ n, cnN] at ih
      refine l_X6_rowsThere_4 hX ⟨fun q => absurd q (nI_ge (b := 8) (by omega) (by omega)), fun _ => q_rowOf (by omega) ⟨fun c => (nomatch c), fun k1 e1 => ?_⟩⟩
      obtain rfl := Option.some.inj e1
      refine ⟨rows_is (by omega), q_isMissing (by omega) (hR n (by omega)) (fun c => y0' ?_) (fun c => y1' ?_)⟩
      · rw [if_pos (by unfold thB; rw [decide_eq_true_eq]; exact c), nI_succ] at ih
        exact ih
      · rw [if_neg (by unfold thB; rw [decide_eq_true_eq]; exact fun z => z c)] at ih
        exact ih
  exact key 8 0 rfl
theorem m_rowsThere {f : zF} {K : Int32 → zF → Prop} (hR : iRows f) {X : zX} (hX : kR X (zRi K)) {x : Int32} (h : K (nI (cnN (thB f) 8)) f) : Z X mX7_count 50 [(0, .ref 52), (1, .int x), (2, .int 0), (3, .int 0)] [] (zC f) := by
  have key : ∀ k n, n + k = 8 → Z X mX7_count 50 [(0, .ref 52), (1, .int x), (2, .int (nI (cnN (thB f) n))), (3, .int (nI n))] [] (zC f) := by
    intro k
    induction k with
    | zero =>
      intro n hn
      have e : n = 8 := by omega
      subst e
      exact l_X7_count_50 hX ⟨fun _ => h, fun q => absurd (Int32.le_refl _) q⟩
    | succ k ih =>
      intro n hn
      have ih := ih (n + 1) (by omega)
      rw [nI_succ n, cnN] at ih
      refine l_X7_count_50 hX ⟨fun q => absurd q (nI_ge (b := 8) (by omega) (by omega)), fun _ => ⟨vp_in_nI (by omega) (by omega), fun z1 e1 => ?_⟩⟩
      rw [nI_clamp (by omega)] at e1
      have e1 : z1 = nI (if thB f n = true then 1 else 0) := by
        rw [e1]
        by_cases q : f 53 n = -1
        · rw [if_pos ((ln_neg (hR n (by omega)).2.1).mpr q), if_neg (by unfold thB; rw [decide_eq_true_eq]; exact fun z => z q)]; rfl
        · rw [if_neg (fun z => q ((ln_neg (hR n (by omega)).2.1).mp z)), if_pos (by unfold thB; rw [decide_eq_true_eq]; exact q)]; rfl
      rw [e1, nI_add]
      exact ih
  exact key 8 0 rfl
theorem p_count : ∀ (a0 : Int32) (f : zF), Inv f → pr2 Inv mX6_count mX7_count [.int a0] f := by
  intro a0 f hI K hK
  obtain ⟨A, ok, hP, hM⟩ := Inv_pg hI
  have fin : ∀ r f', nz f f' → K r r f' := fun r f' h => hK r f' (Inv_nz hI h)
  have hM0 := MP_nz (z0 f) hM
  have no : ∀ (W : Int32 → Prop) (x : Int32) (b : Nat) (j : Nat), b ≠ j → b < 6 → j < 6 → x = nI b → ¬ x = nI j := fun W x b j h hb hj e c => h ((nI_eq (by omega) (by omega)).mp (e.symm.trans c))
  rcases inOut a0 (n := 6) (by omega) with h0 | ⟨w, hw, rfl⟩
  · refine w_X6_count ⟨fun c => absurd c (out_ne (by omega) h0 0 (by omega)), fun c => absurd c (out_ne (by omega) h0 1 (by omega)), fun c => absurd c (out_ne (by omega) h0 2 (by omega)), fun c => absurd c (out_ne (by omega) h0 3 (by omega)), fun c => absurd c (out_ne (by omega) h0 4 (by omega)), fun c => absurd c (out_ne (by omega) h0 5 (by omega)), fun _ _ _ _ _ _ => ?_⟩
    exact w_X7_count (fun X hX => ⟨fun c => absurd c (out_ne (by omega) h0 0 (by omega)), fun c => absurd c (out_ne (by omega) h0 1 (by omega)), fun c => absurd c (out_ne (by omega) h0 2 (by omega)), fun c => absurd c (out_ne (by omega) h0 3 (by omega)), fun c => absurd c (out_ne (by omega) h0 4 (by omega)), fun c => absurd c (out_ne (by omega) h0 5 (by omega)), fun _ _ _ _ _ _ => fin _ _ (z0 f)⟩)
  · rcases (show w = 0 ∨ w = 1 ∨ w = 2 ∨ w = 3 ∨ w = 4 ∨ w = 5 by omega) with rfl | rfl | rfl | rfl | rfl | rfl
    · refine w_X6_count ⟨fun _ => q_rowsThere hI.1 ?_, fun c => absurd c (by decide), fun c => absurd c (by decide), fun c => absurd c (by decide), fun c => absurd c (by decide), fun c => absurd c (by decide), fun c => absurd rfl c⟩
      refine w_X7_count (fun X hX => ⟨fun _ => m_rowsThere (iRows_iq (iq_nz (iq_refl f) (z0 f)) hI.1) hX ?_, fun c => absurd c (by decide), fun c => absurd c (by decide), fun c => absurd c (by decide), fun c => absurd c (by decide), fun c => absurd c (by decide), fun c => absurd rfl c⟩)
      have e : thB (zup f 52 0 0) = thB f := by
        unfold thB
        rw [zup_ne (by omega)]
      rw [e]
      exact fin _ _ (z0 f)
    · refine w_X6_count ⟨fun c => absurd c (by decide), fun _ => ?_, fun c => absurd c (by decide), fun c => absurd c (by decide), fun c => absurd c (by decide), fun c => absurd c (by decide), fun _ c => absurd rfl c⟩
      refine w_X7_count (fun X hX => ⟨fun c => absurd c (by decide), fun _ => ?_, fun c => absurd c (by decide), fun c => absurd c (by decide), fun c => absurd c (by decide), fun c => absurd c (by decide), fun _ c => absurd rfl c⟩)
      rw [hP.2.1, show f 56 1 = _ from hM.2.1]
      exact fin _ _ (z0 f)
    · refine w_X6_count ⟨fun c => absurd c (by decide), fun c => absurd c (by decide), fun _ => ?_, fun c => absurd c (by decide), fun c => absurd c (by decide), fun c => absurd c (by decide), fun _ _ c => absurd rfl c⟩
      refine w_X7_count (fun X hX => ⟨fun c => absurd c (by decide), fun c => absurd c (by decide), fun _ => ?_, fun c => absurd c (by decide), fun c => absurd c (by decide), fun c => absurd c (by decide), fun _ _ c => absurd rfl c⟩)
      rw [hP.2.2.1, show f 56 2 = _ from hM.2.2.1]
      exact fin _ _ (z0 f)
    · refine w_X6_count ⟨fun c => absurd c (by decide), fun c => absurd c (by decide), fun c => absurd c (by decide), fun _ => q_left hP ok ?_, fun c => absurd c (by decide), fun c => absurd c (by decide), fun _ _ _ c => absurd rfl c⟩
      exact w_X7_count (fun X hX => ⟨fun c => absurd c (by decide), fun c => absurd c (by decide), fun c => absurd c (by decide), fun _ => m_left hM0 ok hX (fun f' h => fin _ _ (nz_trans (z0 f) h)), fun c => absurd c (by decide), fun c => absurd c (by decide), fun _ _ _ c => absurd rfl c⟩)
    · obtain ⟨H, na, lt, -, -, -, -, -, h6, h7, -⟩ := hI.2.2.1
      refine w_X6_count ⟨fun c => absurd c (by decide), fun c => absurd c (by decide), fun c => absurd c (by decide), fun c => absurd c (by decide), fun _ => ?_, fun c => absurd c (by decide), fun _ _ _ _ c => absurd rfl c⟩
      refine w_X7_count (fun X hX => ⟨fun c => absurd c (by decide), fun c => absurd c (by decide), fun c => absurd c (by decide), fun c => absurd c (by decide), fun _ => ?_, fun c => absurd c (by decide), fun _ _ _ _ c => absurd rfl c⟩)
      rw [h6, h7]
      exact fin _ _ (z0 f)
    · obtain ⟨n, -, h6, h7, -⟩ := hI.2.1
      refine w_X6_count ⟨fun c => absurd c (by decide), fun c => absurd c (by decide), fun c => absurd c (by decide), fun c => absurd c (by decide), fun c => absurd c (by decide), fun _ => ?_, fun _ _ _ _ _ c => absurd rfl c⟩
      refine w_X7_count (fun X hX => ⟨fun c => absurd c (by decide), fun c => absurd c (by decide), fun c => absurd c (by decide), fun c => absurd c (by decide), fun c => absurd c (by decide), fun _ => ?_, fun _ _ _ _ _ c => absurd rfl c⟩)
      rw [h6, h7]
      exact fin _ _ (z0 f)
