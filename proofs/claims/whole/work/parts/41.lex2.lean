/-! ===== the reference goes on to the next token ===== -/
def fL (f f' : zF) : Prop := (∀ c, c ≠ 52 → f' c = f c) ∧ ∀ j, j ≠ 13 → j ≠ 14 → j ≠ 15 → j ≠ 16 → f' 52 j = f 52 j
theorem fL_up {f g : zF} (h : fL f g) {j : Nat} (hj : j = 13 ∨ j = 14 ∨ j = 15 ∨ j = 16) {v : Int32} : fL f (zup g 52 j v) := ⟨fun c hc => by rw [zup_ne hc]; exact h.1 c hc, fun i h1 h2 h3 h4 => by rw [up_sl (by omega)]; exact h.2 i h1 h2 h3 h4⟩
theorem tpM_fL {f g : zF} {β : Nat → Nat} {N : Nat} (h : fL f g) (hT : tpM f β N) : tpM g β N := ⟨by rw [h.2 12 (by omega) (by omega) (by omega) (by omega)]; exact hT.1, fun j hj => by rw [h.1 59 (by omega)]; exact hT.2 j hj⟩
theorem m_isLetterE {f : zF} {K : Int32 → zF → Prop} (h : K 0 f) : ci mX7_isLetter [.int (-1000000)] f K := w_X7_isLetter ⟨fun _ => h, fun q => absurd (by decide) q⟩
theorem m_isFigureE {f : zF} {K : Int32 → zF → Prop} (h : K 0 f) : ci mX7_isFigure [.int (-1000000)] f K := w_X7_isFigure ⟨fun _ => h, fun q => absurd (by decide) q⟩
theorem m_next {f : zF} {K : zF → Prop} {β : Nat → Nat} {N i : Nat} (hN : N ≤ 400) (hβ : ∀ j, j < N → β j < 256) (hT : tpM f β N) (hi : i ≤ N) (h4 : f 52 13 = nI i) (h : ∀ f', fL f f' → lxM f' (tkN β N i) → K f') : cv mX7_next [.ref 52] f K := by
  refine w_X7_next (fun X hX => ?_)
  -- letters
  have r1 : ∀ (s : Nat) (x : Int32), s < N → ∀ k j g, j + k = N → fL f g → g 52 15 = nI s → g 52 13 = nI j → (∀ f', fL f f' → lxM f' (1, s, ruN β 1 k j) → K f') → Z X mX7_next 77 [(0, .ref 52), (1, .int x)] [] (zC g) := by
    intro s x hs k
    induction k with
    | zero =>
      intro j g hj b1 b3 b4 hk
      have gT := tpM_fL b1 hT
      refine l_X7_next_77 hX ?_
      rw [b4]
      refine m_byteE hN gT (by omega) (m_isLetterE (y0 ?_))
      rw [b4]
      refine hk _ (fL_up (fL_up b1 (by omega)) (by omega)) ⟨?_, ?_, ?_, ?_⟩
      · rw [up_sl (by omega), up_at]; rfl
      · rw [up_sl (by omega), up_sl (by omega)]
        exact b3
      · exact up_at
      · rw [up_sl (by omega), up_sl (by omega)]
        exact b4
    | succ k ih =>
      intro j g hj b1 b3 b4 hk
      have gT := tpM_fL b1 hT
      refine l_X7_next_77 hX ?_
      rw [b4]
      refine m_byte hN gT (by omega) (m_isLetter (hβ j (by omega)) ?_)
      unfold ruN at hk
      by_cases q : soN (β j) = 1
      · rw [if_pos q]
        rw [if_pos q] at hk
        refine y1 ?_
        rw [b4, nI_1]
        exact ih (j + 1) _ (by omega) (fL_up b1 (by omega)) (by rw [up_sl (by omega)]; exact b3) up_at hk
      · rw [if_neg q]
        rw [if_neg q] at hk
        refine y0 ?_
        rw [b4]
        refine hk _ (fL_up (fL_up b1 (by omega)) (by omega)) ⟨?_, ?_, ?_, ?_⟩
        · rw [up_sl (by omega), up_at]; rfl
        · rw [up_sl (by omega), up_sl (by omega)]
          exact b3
        · exact up_at
        · rw [up_sl (by omega), up_sl (by omega)]
          exact b4
  -- figures
  have r2 : ∀ (s : Nat) (x : Int32), s < N → ∀ k j g, j + k = N → s ≤ j → fL f g → g 52 15 = nI s → g 52 13 = nI j → (∀ f', fL f f' → lxM f' (if 3 < ruN β 2 k j - s then 5 else 2, s, ruN β 2 k j) → K f') → Z X mX7_next 119 [(0, .ref 52), (1, .int x)] [] (zC g) := by
    intro s x hs k
    induction k with
    | zero =>
      intro j g hj hsj b1 b3 b4 hk
      have gT := tpM_fL b1 hT
      refine l_X7_next_119 hX ?_
      rw [b4]
      refine m_byteE hN gT (by omega) (m_isFigureE (y0 (fun z1 e1 => ?_)))
      rw [b4, b3, nI_subI hsj] at e1
      rw [b4]
      unfold ruN at hk
      refine hk _ (fL_up (fL_up b1 (by omega)) (by omega)) ⟨?_, ?_, ?_, ?_⟩
      · rw [up_sl (by omega), up_at, e1]
        by_cases z : 3 < j - s
        · have z2 : ¬ nI (j - s) ≤ 3 := fun w => absurd ((nI_leI (b := 3) (by omega) (by omega)).mp w) (by omega)
          rw [if_neg z2]
          show _ = nI (mT (if 3 < j - s then 5 else 2))
          rw [if_pos z]; rfl
        · have z2 : nI (j - s) ≤ 3 := nI_le (b := 3) (by omega) (by omega)
          rw [if_pos z2]
          show _ = nI (mT (if 3 < j - s then 5 else 2))
          rw [if_neg z]; rfl
      · rw [up_sl (by omega), up_sl (by omega)]
        exact b3
      · exact up_at
      · rw [up_sl (by omega), up_sl (by omega)]
        exact b4
    | succ k ih =>
      intro j g hj hsj b1 b3 b4 hk
      have gT := tpM_fL b1 hT
      refine l_X7_next_119 hX ?_
      rw [b4]
      refine m_byte hN gT (by omega) (m_isFigure (hβ j (by omega)) ?_)
      unfold ruN at hk
      by_cases q : soN (β j) = 2
      · rw [if_pos q]
        rw [if_pos q] at hk
        refine y1 ?_
        rw [b4, nI_1]
        exact ih (j + 1) _ (by omega) (by omega) (fL_up b1 (by omega)) (by rw [up_sl (by omega)]; exact b3) up_at hk
      · rw [if_neg q]
        rw [if_neg q] at hk
        refine y0 (fun z1 e1 => ?_)
        rw [b4, b3, nI_subI hsj] at e1
        rw [b4]
        refine hk _ (fL_up (fL_up b1 (by omega)) (by omega)) ⟨?_, ?_, ?_, ?_⟩
        · rw [up_sl (by omega), up_at, e1]
          by_cases z : 3 < j - s
          · have z2 : ¬ nI (j - s) ≤ 3 := fun w => absurd ((nI_leI (b := 3) (by omega) (by omega)).mp w) (by omega)
            rw [if_neg z2]
            show _ = nI (mT (if 3 < j - s then 5 else 2))
            rw [if_pos z]; rfl
          · have z2 : nI (j - s) ≤ 3 := nI_le (b := 3) (by omega) (by omega)
            rw [if_pos z2]
            show _ = nI (mT (if 3 < j - s then 5 else 2))
            rw [if_neg z]; rfl
        · rw [up_sl (by omega), up_sl (by omega)]
          exact b3
        · exact up_at
        · rw [up_sl (by omega), up_sl (by omega)]
          exact b4
  have key : ∀ k i g, i + k = N → fL f g → g 52 13 = nI i → (∀ f', fL f f' → lxM f' (tkAt β N (ruN β 6 k i)) → K f') → Z X mX7_next 0 [(0, .ref 52)] [] (zC g) := by
    intro k
    induction k with
    | zero =>
      intro i g hi b1 b3 hk
      have gT := tpM_fL b1 hT
      refine l_X7_next_0 hX ?_
      rw [b3]
      refine m_byteE hN gT (by omega) ⟨fun q => absurd q (by decide), fun _ => ?_⟩
      rw [b3]
      refine m_byteE hN gT (by omega) ⟨fun _ => ?_, fun q => absurd q (by decide)⟩
      have x13 : (zup g 52 15 (nI i)) 52 13 = nI i := by rw [up_sl (by omega)]; exact b3
      rw [b3]
      refine m_byteE hN (tpM_fL (fL_up b1 (by omega)) hT) (by omega) ⟨fun q => absurd rfl q, fun _ => ?_⟩
      rw [x13]
      refine hk _ (fL_up (fL_up (fL_up b1 (by omega)) (by omega)) (by omega)) ?_
      unfold ruN tkAt
      rw [if_neg (by omega)]
      refine ⟨?_, ?_, up_at, ?_⟩
      · rw [up_sl (by omega), up_at]; rfl
      · rw [up_sl (by omega), up_sl (by omega), up_at]
      · rw [up_sl (by omega), up_sl (by omega)]
        exact x13
    | succ k ih =>
      intro i g hi b1 b3 hk
      have gT := tpM_fL b1 hT
      have hb := hβ i (by omega)
      have e10 : nI (β i) = 10 ↔ β i = 10 := nI_eq (b := 10) (by omega) (by omega)
      have e32 : nI (β i) = 32 ↔ β i = 32 := nI_eq (b := 32) (by omega) (by omega)
      have e47 : nI (β i) = 47 ↔ β i = 47 := nI_eq (b := 47) (by omega) (by omega)
      have e59 : nI (β i) = 59 ↔ β i = 59 := nI_eq (b := 59) (by omega) (by omega)
      have so6 : soN (β i) = 6 ↔ β i = 32 ∨ β i = 10 := by
        unfold soN
        repeat' split
        all_goals omega
      have blank : (β i = 32 ∨ β i = 10) → Z X mX7_next 0 [(0, .ref 52)] [] (zC (zup g 52 13 (g 52 13 + 1))) := by
        intro q
        rw [ruN, if_pos (so6.mpr q)] at hk
        rw [b3, nI_1]
        exact ih (i + 1) _ (by omega) (fL_up b1 (by omega)) up_at hk
      refine l_X7_next_0 hX ?_
      rw [b3]
      refine m_byte hN gT (by omega) ⟨fun q => ?_, fun q => ?_⟩
      · exact blank (Or.inl (e32.mp q))
      rw [b3]
      refine m_byte hN gT (by omega) ⟨fun q2 => ?_, fun q2 => blank (Or.inr (e10.mp q2))⟩
      have nb : ¬ soN (β i) = 6 := fun z => (so6.mp z).elim (fun w => q (e32.mpr w)) (fun w => q2 (e10.mpr w))
      rw [ruN, if_neg nb] at hk
      have hNi : i < N := by omega
      unfold tkAt at hk
      rw [if_pos hNi] at hk
      have x13 : (zup g 52 15 (nI i)) 52 13 = nI i := by rw [up_sl (by omega)]; exact b3
      have fl := fL_up (j := 15) (v := nI i) b1 (by omega)
      rw [b3]
      refine m_byte hN (tpM_fL fl hT) (by omega) ⟨fun _ => m_isLetter hb ?_, fun q3 => absurd q3 (m1_ne _ (by omega))⟩
      have hki : N - i = k + 1 := by omega
      rw [hki] at hk
      by_cases s1 : soN (β i) = 1
      · rw [if_pos s1]
        rw [if_pos s1] at hk
        exact y1 (r1 i _ hNi (k + 1) i _ (by omega) fl up_at x13 hk)
      · rw [if_neg s1]
        rw [if_neg s1] at hk
        refine y0 (m_isFigure hb ?_)
        by_cases s2 : soN (β i) = 2
        · rw [if_pos s2]
          rw [if_pos s2] at hk
          exact y1 (r2 i _ hNi (k + 1) i _ (by omega) (Nat.le_refl _) fl up_at x13 hk)
        · rw [if_neg s2]
          rw [if_neg s2] at hk
          refine y0 (fun z1 e1 => ?_)
          rw [x13, nI_1]
          refine hk _ (fL_up (fL_up (fL_up fl (by omega)) (by omega)) (by omega)) ⟨?_, ?_, up_at, ?_⟩
          · rw [up_sl (by omega), up_at, e1]
            have t3 : soN (β i) = 3 ↔ β i = 59 := by
              unfold soN
              repeat' split
              all_goals omega
            have t4 : soN (β i) = 4 ↔ β i = 47 := by
              unfold soN
              repeat' split
              all_goals omega
            have t5 := soN_le (β i)
            by_cases q3 : β i = 59
            · rw [if_pos (e59.mpr q3)]
              show _ = nI (mT (soN (β i)))
              rw [t3.mpr q3]; rfl
            · rw [if_neg (fun z => q3 (e59.mp z))]
              by_cases q4 : β i = 47
              · rw [if_pos (e47.mpr q4)]
                show _ = nI (mT (soN (β i)))
                rw [t4.mpr q4]; rfl
              · rw [if_neg (fun z => q4 (e47.mp z))]
                show _ = nI (mT (soN (β i)))
                have : soN (β i) = 5 := by
                  have a3 : soN (β i) ≠ 3 := fun z => q3 (t3.mp z)
                  have a4 : soN (β i) ≠ 4 := fun z => q4 (t4.mp z)
                  omega
                rw [this]; rfl
          · rw [up_sl (by omega), up_sl (by omega), up_sl (by omega), up_at]
          · rw [up_sl (by omega), up_sl (by omega), up_at]
  exact key (N - i) i f (by omega) ⟨fun _ _ => rfl, fun _ _ _ _ _ => rfl⟩ h4 h
