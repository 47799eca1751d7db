/-! ===== pairs: write, turn, undo ===== -/
theorem tu_tu (A : aPg) : tuN (tuN A) = A := rfl
theorem ok_tu {A : aPg} (ok : okPg A) : okPg (tuN A) := ⟨ok.1, ok.2.1, ok.2.2.1, ok.2.2.2.1, fun p hp => ⟨(ok.2.2.2.2 p hp).2, (ok.2.2.2.2 p hp).1⟩⟩
theorem upN_up (g : Nat → Nat) (p l : Nat) : upN (upN g p l) p (g p) = g := by
  funext q
  unfold upN
  by_cases h : q = p
  · rw [if_pos h, h]
  · rw [if_neg h, if_neg h]
theorem wr_wr (A : aPg) {s p l : Nat} (hs : s < 2) : wrN (wrN A s p l) s p (pS A s p) = A := by
  obtain ⟨d, L, P, kd, ce, fr, bk⟩ := A
  rcases (show s = 0 ∨ s = 1 by omega) with rfl | rfl
  · show (d, L, P, kd, ce, upN (upN fr p l) p (fr p), bk) = _
    rw [upN_up]
  · show (d, L, P, kd, ce, fr, upN (upN bk p l) p (bk p)) = _
    rw [upN_up]
theorem ok_wr {A : aPg} (ok : okPg A) {s p l : Nat} (hl : l < pL A) : okPg (wrN A s p l) := by
  refine ⟨ok.1, ok.2.1, ok.2.2.1, ok.2.2.2.1, fun q hq => ?_⟩
  have o := ok.2.2.2.2 q hq
  show (if s = 0 then upN (pF A) p l else pF A) q < pL A ∧ (if s = 0 then pB A else upN (pB A) p l) q < pL A
  unfold upN
  by_cases hs : s = 0
  · rw [if_pos hs, if_pos hs]
    refine ⟨?_, o.2⟩
    show (if q = p then l else pF A q) < pL A
    split
    · exact hl
    · exact o.1
  · rw [if_neg hs, if_neg hs]
    refine ⟨o.1, ?_⟩
    show (if q = p then l else pB A q) < pL A
    split
    · exact hl
    · exact o.2
/-- a letter is put on the class's page -/
theorem q_putLetter {f : zF} {K : zF → Prop} {A : aPg} (hP : CP f 12 A) (ok : okPg A) {s p l : Nat} (hs : s < 2) (hp : p < pP A) (h : ∀ f', (∀ c, c ≠ 16 → c ≠ 17 → f' c = f c) → CP f' 12 (wrN A s p l) → K f') : cv mX2_putLetter [.ref 12, .int (nI s), .int (nI p), .int (nI l)] f K := by
  have h9 := ok.2.2.1
  obtain ⟨a1, a2, a3, a4, a5⟩ := hP
  refine w_X2_putLetter pg12 ⟨fun c => ?_, fun c => ?_⟩
  · have s1 : s = 1 := by
      rcases (show s = 0 ∨ s = 1 by omega) with rfl | rfl
      · exact absurd rfl c
      · rfl
    subst s1
    refine q_put (n := 9) (by decide) rfl (by decide) (by omega) (h _ (fun c c1 c2 => zup_ne c2) ⟨?_, ?_, ?_, fun q hq => ?_, fun q hq => ⟨?_, ?_⟩⟩)
    · rw [zup_ne (by omega)]
      exact a1
    · rw [zup_ne (by omega)]
      exact a2
    · rw [zup_ne (by omega)]
      exact a3
    · rw [zup_ne (by omega), zup_ne (by omega), zup_ne (by omega)]
      exact a4 q hq
    · rw [zup_ne (by omega)]
      exact (a5 q hq).1
    · show zup f (12 + 5) p (nI l) (12 + 5) q = nI (upN (pB A) p l q)
      unfold upN
      by_cases e : q = p
      · rw [if_pos e, e, up_at]
      · rw [if_neg e, up_sl e]
        exact (a5 q hq).2
  · have s0 := nI_s0 hs c
    subst s0
    refine q_put (n := 9) (by decide) rfl (by decide) (by omega) (h _ (fun c c1 c2 => zup_ne c1) ⟨?_, ?_, ?_, fun q hq => ?_, fun q hq => ⟨?_, ?_⟩⟩)
    · rw [zup_ne (by omega)]
      exact a1
    · rw [zup_ne (by omega)]
      exact a2
    · rw [zup_ne (by omega)]
      exact a3
    · rw [zup_ne (by omega), zup_ne (by omega), zup_ne (by omega)]
      exact a4 q hq
    · show zup f (12 + 4) p (nI l) (12 + 4) q = nI (upN (pF A) p l q)
      unfold upN
      by_cases e : q = p
      · rw [if_pos e, e, up_at]
      · rw [if_neg e, up_sl e]
        exact (a5 q hq).1
    · rw [zup_ne (by omega)]
      exact (a5 q hq).2
/-- the first n places turned -/
def tuU (A : aPg) (n : Nat) : aPg := (pD A, pL A, pP A, pK A, pE A, (fun q => if q < n then pB A q else pF A q), (fun q => if q < n then pF A q else pB A q))
theorem q_turnOver {f : zF} {K : zF → Prop} {A : aPg} (hP : CP f 12 A) (ok : okPg A) (h : ∀ f', (∀ c, c ≠ 16 → c ≠ 17 → f' c = f c) → CP f' 12 (tuN A) → K f') : cv mX2_turnOver [.ref 12] f K := by
  have h9 := ok.2.2.1
  refine w_X2_turnOver pg12 (fun X hX => ?_)
  have key : ∀ k n g, n + k = pP A → (∀ c, c ≠ 16 → c ≠ 17 → g c = f c) → CP g 12 (tuU A n) → Z X mX2_turnOver 2 [(0, .ref 12), (1, .int (nI n))] [] (zC g) := by
    intro k
    induction k with
    | zero =>
      intro n g hn h1 h2
      have e : n = pP A := by omega
      refine l_X2_turnOver_2 pg12 hX ⟨fun _ => h g h1 ?_, fun q => absurd (by rw [show g 12 2 = nI (pP A) from h2.2.2.1, ← hn]; exact Int32.le_refl _) q⟩
      obtain ⟨a1, a2, a3, a4, a5⟩ := h2
      refine ⟨a1, a2, a3, a4, fun q hq => ?_⟩
      have a5 := a5 q hq
      have hq : q < pP A := hq
      show g (12 + 4) q = nI (pB A q) ∧ g (12 + 5) q = nI (pF A q)
      have x1 : pF (tuU A n) q = pB A q := if_pos (by omega)
      have x2 : pB (tuU A n) q = pF A q := if_pos (by omega)
      rw [x1, x2] at a5
      exact a5
    | succ k ih =>
      intro n g hn h1 h2
      have hp : n < pP A := by omega
      have okU : okPg (tuU A n) := by
        refine ⟨ok.1, ok.2.1, ok.2.2.1, ok.2.2.2.1, fun q hq => ?_⟩
        have o := ok.2.2.2.2 q hq
        show (if q < n then pB A q else pF A q) < pL A ∧ (if q < n then pF A q else pB A q) < pL A
        by_cases z : q < n
        · rw [if_pos z, if_pos z]
          exact ⟨o.2, o.1⟩
        · rw [if_neg z, if_neg z]
          exact o
      have x1 : pS (tuU A n) 0 n = pF A n := by
        show (if n < n then pB A n else pF A n) = _
        rw [if_neg (by omega)]
      have x2 : pS (tuU A n) 1 n = pB A n := by
        show (if n < n then pF A n else pB A n) = _
        rw [if_neg (by omega)]
      refine l_X2_turnOver_2 pg12 hX ⟨fun q => absurd q (by rw [show g 12 2 = nI (pP A) from h2.2.2.1]; exact nI_ge (by omega) (by omega)), fun _ => ?_⟩
      refine q_letterAt (s := 0) h2 okU (by omega) hp (q_letterAt (s := 1) h2 okU (by omega) hp ?_)
      rw [x1, x2]
      have okW : okPg (wrN (tuU A n) 0 n (pB A n)) := ok_wr okU (ok.2.2.2.2 n hp).2
      refine q_putLetter (s := 0) h2 okU (by omega) hp (fun g1 b1 b2 => q_putLetter (s := 1) b2 okW (by omega) hp (fun g2 d1 d2 => ?_))
      rw [← nI_succ]
      refine ih (n + 1) g2 (by omega) (fun c c1 c2 => by rw [d1 c c1 c2, b1 c c1 c2]; exact h1 c c1 c2) ?_
      have e : wrN (wrN (tuU A n) 0 n (pB A n)) 1 n (pF A n) = tuU A (n + 1) := by
        show (pD A, pL A, pP A, pK A, pE A, upN (fun q => if q < n then pB A q else pF A q) n (pB A n), upN (fun q => if q < n then pF A q else pB A q) n (pF A n)) = (pD A, pL A, pP A, pK A, pE A, (fun q => if q < n + 1 then pB A q else pF A q), (fun q => if q < n + 1 then pF A q else pB A q))
        have y1 : upN (fun q => if q < n then pB A q else pF A q) n (pB A n) = fun q => if q < n + 1 then pB A q else pF A q := by
          funext q
          unfold upN
          by_cases z : q = n
          · rw [if_pos z, z, if_pos (by omega)]
          · rw [if_neg z]
            show (if q < n then pB A q else pF A q) = _
            by_cases w : q < n
            · rw [if_pos w, if_pos (by omega)]
            · rw [if_neg w, if_neg (by omega)]
        have y2 : upN (fun q => if q < n then pF A q else pB A q) n (pF A n) = fun q => if q < n + 1 then pF A q else pB A q := by
          funext q
          unfold upN
          by_cases z : q = n
          · rw [if_pos z, z, if_pos (by omega)]
          · rw [if_neg z]
            show (if q < n then pF A q else pB A q) = _
            by_cases w : q < n
            · rw [if_pos w, if_pos (by omega)]
            · rw [if_neg w, if_neg (by omega)]
        rw [y1, y2]
      rw [← e]
      exact d2
  refine key (pP A) 0 f (by omega) (fun _ _ _ => rfl) ?_
  have e : tuU A 0 = A := by
    obtain ⟨d, L, P, kd, ce, fr, bk⟩ := A
    show (d, L, P, kd, ce, (fun q => if q < 0 then bk q else fr q), (fun q => if q < 0 then fr q else bk q)) = _
    simp
  rw [e]
  exact hP
/-- the class keeps an act -/
theorem q_keep {f : zF} {K : zF → Prop} {na lt : Nat} {x y z : Int32} (h1 : na ≤ 24) (h2 : lt < 24) (h3 : f 18 4 = nI na) (h4 : f 18 3 = nI lt) (h : ∀ f', (∀ c, (c < 18 ∨ 21 < c) → f' c = f c) → f' 18 4 = nI (if na = 24 then 24 else na + 1) → f' 18 3 = nI (if lt = 23 then 0 else lt + 1) → f' 19 (if lt = 23 then 0 else lt + 1) = x → f' 20 (if lt = 23 then 0 else lt + 1) = y → f' 21 (if lt = 23 then 0 else lt + 1) = z → (∀ c, 19 ≤ c → c ≤ 21 → ∀ j, j ≠ (if lt = 23 then 0 else lt + 1) → f' c j = f c j) → K f') : cv mX0_keep [.ref 18, .int x, .int y, .int z] f K := by
  refine w_X0_keep (fun z1 e1 z2 e2 => ?_)
  have e1 : z1 = nI (if lt = 23 then 0 else lt + 1) := by
    rw [e1, h4, nI_1, show (24 : Int32) = nI 24 from rfl]
    by_cases q : lt = 23
    · rw [if_pos q, if_pos (nI_le (by omega) (by omega))]; rfl
    · rw [if_neg q, if_neg (nI_ge (by omega) (by omega))]
  have e2 : z2 = nI (if na = 24 then 24 else na + 1) := by
    rw [e2, h3, nI_1, show (24 : Int32) = nI 24 from rfl]
    by_cases q : na = 24
    · rw [if_pos q, if_pos (nI_lt (by omega) (by omega))]
    · rw [if_neg q, if_neg (nI_nlt (by omega) (by omega))]
  rw [e1, e2]
  have hj : (if lt = 23 then 0 else lt + 1) < 24 := by split <;> omega
  generalize (if lt = 23 then 0 else lt + 1) = j at h hj ⊢
  generalize (if na = 24 then 24 else na + 1) = m at h ⊢
  refine q_put (n := 24) (by decide) rfl (by decide) hj ?_
  have g1 : (zup (zup (zup f 18 3 (nI j)) 18 4 (nI m)) 19 j x) 18 3 = nI j := by rw [zup_ne (by omega), up_sl (by omega), up_at]
  rw [g1]
  refine q_put (n := 24) (by decide) rfl (by decide) hj ?_
  have g2 : (zup (zup (zup (zup f 18 3 (nI j)) 18 4 (nI m)) 19 j x) 20 j y) 18 3 = nI j := by rw [zup_ne (by omega)]; exact g1
  rw [g2]
  refine q_put (n := 24) (by decide) rfl (by decide) hj (h _ (fun c hc => ?_) ?_ ?_ ?_ ?_ ?_ (fun c c1 c2 i hi => ?_))
  · rw [zup_ne (by omega), zup_ne (by omega), zup_ne (by omega), zup_ne (by omega), zup_ne (by omega)]
  · rw [zup_ne (by omega), zup_ne (by omega), zup_ne (by omega), up_at]
  · rw [zup_ne (by omega)]
    exact g2
  · rw [zup_ne (by omega), zup_ne (by omega), up_at]
  · rw [zup_ne (by omega), up_at]
  · exact up_at
  · rcases (show c = 19 ∨ c = 20 ∨ c = 21 by omega) with rfl | rfl | rfl
    · rw [zup_ne (by omega), zup_ne (by omega), up_sl hi, zup_ne (by omega), zup_ne (by omega)]
    · rw [zup_ne (by omega), up_sl hi, zup_ne (by omega), zup_ne (by omega), zup_ne (by omega)]
    · rw [up_sl hi, zup_ne (by omega), zup_ne (by omega), zup_ne (by omega), zup_ne (by omega)]
/-- the reference keeps the page -/
theorem m_keep {f : zF} {K : zF → Prop} {na : Nat} (h1 : na ≤ 24) (h2 : f 52 8 = nI na) (h : ∀ f', (∀ c, c ≠ 52 → c ≠ 58 → f' c = f c) → (∀ j, j ≠ 8 → f' 52 j = f 52 j) → f' 52 8 = nI (if na = 24 then 24 else na + 1) → (∀ j, j < 37 * (if na = 24 then 23 else na) → f' 58 j = f 58 (if na = 24 then j + 37 else j)) → (∀ j, j < 37 → f' 58 (37 * (if na = 24 then 23 else na) + j) = f 56 j) → K f') : cv mX7_keep [.ref 52] f K := by
  refine w_X7_keep (fun X hX => ?_)
  -- the page is put at place m
  have put : ∀ (m : Nat) (g : zF), m < 24 → g 52 8 = nI m → (∀ f', (∀ c, c ≠ 52 → c ≠ 58 → f' c = g c) → (∀ j, j ≠ 8 → f' 52 j = g 52 j) → f' 52 8 = nI (m + 1) → (∀ j, j < 37 * m → f' 58 j = g 58 j) → (∀ j, j < 37 → f' 58 (37 * m + j) = g 56 j) → K f') → Z X mX7_keep 51 [(0, .ref 52), (1, .int 0)] [] (zC g) := by
    intro m g hm hg hk
    have key : ∀ k n g2, n + k = 37 → (∀ c, c ≠ 58 → g2 c = g c) → (∀ j, j < 37 * m → g2 58 j = g 58 j) → (∀ j, j < n → g2 58 (37 * m + j) = g 56 j) → Z X mX7_keep 51 [(0, .ref 52), (1, .int (nI n))] [] (zC g2) := by
      intro k
      induction k with
      | zero =>
        intro n g2 hn b1 b2 b3
        have e : n = 37 := by omega
        subst e
        refine l_X7_keep_51 hX ⟨fun _ => ?_, fun q => absurd (Int32.le_refl _) q⟩
        rw [b1 52 (by omega), hg, nI_1]
        refine hk _ (fun c c1 c2 => by rw [zup_ne c1, b1 c c2]) (fun j hj => by rw [up_sl hj, b1 52 (by omega)]) up_at (fun j hj => by rw [zup_ne (by omega)]; exact b2 j hj) (fun j hj => by rw [zup_ne (by omega)]; exact b3 j hj)
      | succ k ih =>
        intro n g2 hn b1 b2 b3
        refine l_X7_keep_51 hX ⟨fun q => absurd q (nI_ge (b := 37) (by omega) (by omega)), fun _ => ?_⟩
        rw [b1 52 (by omega), hg, ix37, nI_clamp (by omega), nI_clamp (by omega), ← nI_succ]
        refine ⟨vp_in_nI (by omega) (by omega), vp_in_nI (by omega) (by omega), ih (n + 1) _ (by omega) (fun c hc => by rw [zup_ne hc]; exact b1 c hc) (fun j hj => by rw [up_sl (by omega)]; exact b2 j hj) (fun j hj => ?_)⟩
        by_cases e : j = n
        · subst e
          rw [up_at, b1 56 (by omega)]
        · rw [up_sl (by omega)]
          exact b3 j (by omega)
    exact key 37 0 g rfl (fun _ _ => rfl) (fun _ _ => rfl) (fun j hj => absurd hj (by omega))
  by_cases q : na = 24
  · subst q
    refine ⟨fun c => absurd h2 c, fun _ => ?_⟩
    have key : ∀ k n g, n + k = 851 → (∀ c, c ≠ 58 → g c = f c) → (∀ j, j < n → g 58 j = f 58 (j + 37)) → (∀ j, n ≤ j → g 58 j = f 58 j) → Z X mX7_keep 11 [(0, .ref 52), (1, .int (nI n))] [] (zC g) := by
      intro k
      induction k with
      | zero =>
        intro n g hn b1 b2 b3
        have e : n = 851 := by omega
        subst e
        refine l_X7_keep_11 hX ⟨fun _ => ?_, fun q => absurd (Int32.le_refl _) q⟩
        rw [b1 52 (by omega), h2, show (nI 24 - 1 : Int32) = nI 23 from nI_pred 23]
        refine put 23 _ (by omega) up_at (fun f' d1 d2 d3 d4 d5 => h f' (fun c c1 c2 => ?_) (fun j hj => ?_) d3 (fun j hj => ?_) (fun j hj => ?_))
        · rw [d1 c c1 c2, zup_ne c1, b1 c c2]
        · rw [d2 j hj, up_sl hj, b1 52 (by omega)]
        · rw [if_pos rfl]
          rw [if_pos rfl] at hj
          rw [d4 j hj, zup_ne (by omega)]
          exact b2 j (by omega)
        · rw [if_pos rfl, d5 j hj, zup_ne (by omega), b1 56 (by omega)]
      | succ k ih =>
        intro n g hn b1 b2 b3
        refine l_X7_keep_11 hX ⟨fun q => absurd q (nI_ge (b := 851) (by omega) (by omega)), fun _ => ?_⟩
        have e : nI n + 37 = nI (n + 37) := nI_add n 37
        rw [e, nI_clamp (by omega), nI_clamp (by omega), ← nI_succ]
        refine ⟨vp_in_nI (by omega) (by omega), vp_in_nI (by omega) (by omega), ih (n + 1) _ (by omega) (fun c hc => by rw [zup_ne hc]; exact b1 c hc) (fun j hj => ?_) (fun j hj => by rw [up_sl (by omega)]; exact b3 j (by omega))⟩
        by_cases e : j = n
        · subst e
          rw [up_at]
          exact b3 _ (by omega)
        · rw [up_sl e]
          exact b2 j (by omega)
    exact key 851 0 f rfl (fun _ _ => rfl) (fun j hj => absurd hj (by omega)) (fun _ _ => rfl)
  · refine ⟨fun _ => put na f (by omega) h2 (fun f' d1 d2 d3 d4 d5 => h f' d1 d2 ?_ (fun j hj => ?_) (fun j hj => ?_)), fun c => absurd c (fun z => q ?_)⟩
    · rw [if_neg q]
      exact d3
    · rw [if_neg q] at hj ⊢
      exact d4 j hj
    · rw [if_neg q]
      exact d5 j hj
    · rw [h2] at z
      exact (nI_eq (b := 24) (by omega) (by omega)).mp z
