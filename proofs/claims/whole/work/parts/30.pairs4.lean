/-! ===== pairs: the rows ===== -/
theorem row_cell {i k : Nat} (h : i ≠ k) : 24 + 2 * i ≠ 24 + 2 * k ∧ 24 + 2 * i + 1 ≠ 24 + 2 * k + 1 := ⟨by omega, by omega⟩
/-- status, and what the rows don't touch -/
theorem Inv_rows {f f' : zF} (hI : Inv f) (hR : iRows f') (hs : f' 0 6 = f' 52 1) (h1 : ∀ c, (c < 24 ∨ 40 ≤ c) → c ≠ 52 → c ≠ 0 → c ≠ 53 → c ≠ 54 → c ≠ 55 → f' c = f c) (h2 : ∀ j, j ≠ 0 → j ≠ 1 → j ≠ 19 → j ≠ 20 → f' 52 j = f 52 j) : Inv f' := by
  obtain ⟨a, b, c, d, e, -, g⟩ := hI
  refine ⟨hR, ?_, ?_, ?_, ?_, hs, ?_⟩
  · unfold iTape at b ⊢
    rw [h1 4 (by omega) (by omega) (by omega) (by omega) (by omega) (by omega), h1 5 (by omega) (by omega) (by omega) (by omega) (by omega) (by omega), h1 59 (by omega) (by omega) (by omega) (by omega) (by omega) (by omega), h2 10 (by omega) (by omega) (by omega) (by omega)]
    exact b
  · obtain ⟨H, na, lt, x1, x2, x3, x4, x5, x6, x7, x8, x9⟩ := c
    refine ⟨H, na, lt, x1, x2, x3, ?_, ?_⟩
    · unfold CP
      rw [h1 12 (by omega) (by omega) (by omega) (by omega) (by omega) (by omega), h1 (12 + 1) (by omega) (by omega) (by omega) (by omega) (by omega) (by omega), h1 (12 + 2) (by omega) (by omega) (by omega) (by omega) (by omega) (by omega), h1 (12 + 3) (by omega) (by omega) (by omega) (by omega) (by omega) (by omega), h1 (12 + 4) (by omega) (by omega) (by omega) (by omega) (by omega) (by omega), h1 (12 + 5) (by omega) (by omega) (by omega) (by omega) (by omega) (by omega)]
      exact x4
    · rw [h1 56 (by omega) (by omega) (by omega) (by omega) (by omega) (by omega), h1 18 (by omega) (by omega) (by omega) (by omega) (by omega) (by omega), h1 58 (by omega) (by omega) (by omega) (by omega) (by omega) (by omega), h2 8 (by omega) (by omega) (by omega) (by omega)]
      refine ⟨x5, x6, x7, x8, fun t ht => ⟨(x9 t ht).1, iAct_eq ?_ ?_ ?_ (x9 t ht).2⟩⟩ <;> rw [h1 _ (by omega) (by omega) (by omega) (by omega) (by omega) (by omega)]
  · intro k hk
    obtain ⟨A, ok, hP, hm⟩ := d k hk
    refine ⟨A, ok, ?_, ?_⟩
    · unfold CP
      rw [h1 (40 + 6 * k) (by omega) (by omega) (by omega) (by omega) (by omega) (by omega), h1 (40 + 6 * k + 1) (by omega) (by omega) (by omega) (by omega) (by omega) (by omega), h1 (40 + 6 * k + 2) (by omega) (by omega) (by omega) (by omega) (by omega) (by omega), h1 (40 + 6 * k + 3) (by omega) (by omega) (by omega) (by omega) (by omega) (by omega), h1 (40 + 6 * k + 4) (by omega) (by omega) (by omega) (by omega) (by omega) (by omega), h1 (40 + 6 * k + 5) (by omega) (by omega) (by omega) (by omega) (by omega) (by omega)]
      exact hP
    · rw [h1 60 (by omega) (by omega) (by omega) (by omega) (by omega) (by omega), h1 61 (by omega) (by omega) (by omega) (by omega) (by omega) (by omega)]
      exact hm
  · unfold iTr at e ⊢
    rw [h1 22 (by omega) (by omega) (by omega) (by omega) (by omega) (by omega), h1 23 (by omega) (by omega) (by omega) (by omega) (by omega) (by omega), h1 62 (by omega) (by omega) (by omega) (by omega) (by omega) (by omega), h2 24 (by omega) (by omega) (by omega) (by omega)]
    exact e
  · rw [h1 3 (by omega) (by omega) (by omega) (by omega) (by omega) (by omega), h2 11 (by omega) (by omega) (by omega) (by omega)]
    exact g
/-- the items of a row are emptied -/
theorem q_make {f : zF} {K : zF → Prop} {i : Nat} (hi : i < 8) {a b : Int32} (h : ∀ f', (∀ c, c ≠ 24 + 2 * i → c ≠ 24 + 2 * i + 1 → f' c = f c) → f' (24 + 2 * i) 1 = a → f' (24 + 2 * i) 2 = b → (∀ j, j < 40 → f' (24 + 2 * i + 1) j = 0) → K f') : cv mX4_make [.ref (24 + 2 * i), .int a, .int b] f K := by
  refine w_X4_make (rows_is hi) (fun X hX => ?_)
  have key : ∀ k n g, n + k = 40 → (∀ c, c ≠ 24 + 2 * i → c ≠ 24 + 2 * i + 1 → g c = f c) → g (24 + 2 * i) 1 = a → g (24 + 2 * i) 2 = b → (∀ j, j < n → g (24 + 2 * i + 1) j = 0) → Z X mX4_make 12 [(0, .ref (24 + 2 * i)), (1, .int a), (2, .int b), (3, .int (nI n))] [] (zC g) := by
    intro k
    induction k with
    | zero =>
      intro n g hn h1 h2 h3 h4
      have e : n = 40 := by omega
      subst e
      exact l_X4_make_12 (rows_is hi) hX ⟨fun _ => h g h1 h2 h3 h4, fun q => absurd (Int32.le_refl _) q⟩
    | succ k ih =>
      intro n g hn h1 h2 h3 h4
      refine l_X4_make_12 (rows_is hi) hX ⟨fun q => absurd q (nI_ge (b := 40) (by omega) (by omega)), fun _ => ⟨vp_in_nI (by omega) (by omega), ?_⟩⟩
      rw [nI_clamp (by omega), ← nI_succ]
      refine ih (n + 1) _ (by omega) (fun c c1 c2 => by rw [zup_ne c2]; exact h1 c c1 c2) (by rw [zup_ne (by omega)]; exact h2) (by rw [zup_ne (by omega)]; exact h3) (fun j hj => ?_)
      rw [zup_eq]
      show (if j = n then 0 else g (24 + 2 * i + 1) j) = 0
      by_cases e : j = n
      · rw [if_pos e]
      · rw [if_neg e]
        exact h4 j (by omega)
  refine key 40 0 _ rfl (fun c c1 c2 => by rw [zup_ne c1, zup_ne c1]) ?_ up_at (fun j hj => absurd hj (by omega))
  rw [up_sl (by omega)]
  exact up_at
theorem m_row_loop {f : zF} {K : Int32 → zF → Prop} {i : Nat} (hi : i < 8) {a b : Int32} {X : zX} (hX : kR X (zRi K)) (h : ∀ f', (∀ c, c ≠ 55 → f' c = f c) → (∀ j, (j < 40 * i ∨ 40 * i + 40 ≤ j) → f' 55 j = f 55 j) → (∀ j, j < 40 → f' 55 (40 * i + j) = 0) → K b f') : Z X mX7_row 65 [(0, .ref 52), (1, .int (nI i)), (2, .int a), (3, .int b), (4, .int 0)] [] (zC f) := by
  have key : ∀ k n g, n + k = 40 → (∀ c, c ≠ 55 → g c = f c) → (∀ j, (j < 40 * i ∨ 40 * i + 40 ≤ j) → g 55 j = f 55 j) → (∀ j, j < n → g 55 (40 * i + j) = 0) → Z X mX7_row 65 [(0, .ref 52), (1, .int (nI i)), (2, .int a), (3, .int b), (4, .int (nI n))] [] (zC g) := by
    intro k
    induction k with
    | zero =>
      intro n g hn h1 h2 h3
      have e : n = 40 := by omega
      subst e
      exact l_X7_row_65 hX ⟨fun _ => h g h1 h2 h3, fun q => absurd (Int32.le_refl _) q⟩
    | succ k ih =>
      intro n g hn h1 h2 h3
      have e : 40 * nI i + nI n = nI (40 * i + n) := by rw [show (40 : Int32) = nI 40 from rfl, pk_mul, nI_add]
      refine l_X7_row_65 hX ⟨fun q => absurd q (nI_ge (b := 40) (by omega) (by omega)), fun _ => ?_⟩
      rw [e, nI_clamp (by omega), ← nI_succ]
      refine ⟨vp_in_nI (by omega) (by omega), ih (n + 1) _ (by omega) (fun c c1 => by rw [zup_ne c1]; exact h1 c c1) (fun j hj => ?_) (fun j hj => ?_)⟩
      · rw [up_sl (by omega)]
        exact h2 j hj
      · rw [zup_eq]
        show (if 40 * i + j = 40 * i + n then 0 else g 55 (40 * i + j)) = 0
        by_cases e : j = n
        · rw [if_pos (by rw [e])]
        · rw [if_neg (by omega)]
          exact h3 j (by omega)
  exact key 40 0 f rfl (fun _ _ => rfl) (fun _ _ => rfl) (fun j hj => absurd hj (by omega))
theorem p_row : ∀ (a0 a1 a2 : Int32) (f : zF), Inv f → pr2 Inv mX6_row mX7_row [.int a0, .int a1, .int a2] f := by
  intro a0 a1 a2 f hI K hK
  have fin : ∀ r f', nz f f' → K r r f' := fun r f' h => hK r f' (Inv_nz hI h)
  rcases inOut a0 (n := 8) (by omega) with h0 | ⟨i, hi, rfl⟩
  · exact w_X6_row (q_rowOf_f h0 ⟨fun _ => w_X7_row (fun X hX => m_isRow_f h0 (y0 (fin _ _ (z0 f)))), fun k1 e1 => (nomatch e1)⟩)
  · refine w_X6_row (q_rowOf hi ⟨fun c => (nomatch c), fun k1 e1 => ?_⟩)
    obtain rfl := Option.some.inj e1
    refine ⟨rows_is hi, ?_⟩
    rcases inOut a1 (n := 3) (by omega) with h1 | ⟨w, hw, rfl⟩
    · have e : ci mX7_row [.ref 52, .int (nI i), .int a1, .int a2] f (fun r2 f2 => K (-1000001) r2 f2) := w_X7_row (fun X hX => m_isRow_t hi (y1 (m_in0_f h1 (by omega) rfl (y0 (fin _ _ (z0 f))))))
      exact ⟨fun _ => e, fun c => ⟨fun _ => e, fun c2 => absurd (outI_512 (n := 2) (by omega) h1 c) c2⟩⟩
    · refine ⟨fun c => absurd c (nI_pos (by omega)), fun _ => ⟨fun c => absurd c (nI_nlt (a := 2) (by omega) (by omega)), fun _ => ?_⟩⟩
      have iq0 : ∀ v, iq (zup f 0 6 v) (zup (zup (zup f 0 6 v) 52 0 0) 52 1 0) := fun v => iq_52 (iq_52 (iq_refl _) (by omega)) (by omega)
      refine ⟨fun q1 => ⟨fun q2 => ?_, fun q2 => ?_⟩, fun q1 => ?_⟩
      · refine q_make hi (fun f1 b1 b2 b3 b4 => w_X6_unfound (w_X7_row (fun X hX => m_isRow_t hi (y1 (m_in0_t hw (by omega) rfl (y1 ⟨fun _ => ⟨fun _ => ⟨vp_in_nI hi (by omega), vp_in_nI hi (by omega), ?_⟩, fun c => absurd q2 c⟩, fun c => absurd q1 c⟩))))))
        rw [nI_clamp (by omega)]
        refine m_row_loop hi hX (fun f2 d1 d2 d3 => hK _ _ ?_)
        obtain ⟨n, hn, rfl⟩ : ∃ n, n ≤ 40 ∧ a2 = nI n := by
          obtain ⟨j, hj, e⟩ := nI_of (x := a2) (fun c => absurd (Int32.lt_of_le_of_lt q2 c) Int32.lt_irrefl)
          refine ⟨j, ?_, e⟩
          rw [e] at q1
          exact (nI_leI (b := 40) (by omega) (by omega)).mp q1
        refine Inv_rows hI ?_ ?_ (fun c hc c1 c2 c3 c4 c5 => ?_) (fun j j1 j2 j3 j4 => ?_)
        · intro k hk
          have old := hI.1 k hk
          unfold iRw at old ⊢
          rw [d1 (24 + 2 * k) (by omega), d1 (24 + 2 * k + 1) (by omega), d1 53 (by omega), d1 54 (by omega)]
          by_cases e : k = i
          · subst e
            refine ⟨?_, ?_, fun _ => ⟨?_, n, hn, ?_⟩, fun j hj => ?_⟩
            · rw [zup_ne (by omega), zup_ne (by omega), zup_ne (by omega), zup_ne (by omega), zup_ne (by omega), b2, zup_ne (by omega), up_at]
            · rw [zup_ne (by omega), up_at]
              rcases (show w = 0 ∨ w = 1 ∨ w = 2 by omega) with rfl | rfl | rfl
              · exact Or.inr (Or.inl rfl)
              · exact Or.inr (Or.inr (Or.inl rfl))
              · exact Or.inr (Or.inr (Or.inr rfl))
            · rw [zup_ne (by omega), zup_ne (by omega), zup_ne (by omega), zup_ne (by omega), zup_ne (by omega), b3, up_at]
            · exact up_at
            · rw [zup_ne (by omega), zup_ne (by omega), zup_ne (by omega), zup_ne (by omega), zup_ne (by omega), b4 j hj, d3 j hj]
          · have e53 : (zup (zup (zup (zup (zup f1 0 6 0) 52 0 0) 52 1 0) 53 i (nI w)) 54 i (nI n)) 53 k = f 53 k := by
              rw [zup_ne (by omega), up_sl e, zup_ne (by omega), zup_ne (by omega), zup_ne (by omega), b1 53 (by omega) (by omega)]
            have e54 : (zup (zup (zup (zup (zup f1 0 6 0) 52 0 0) 52 1 0) 53 i (nI w)) 54 i (nI n)) 54 k = f 54 k := by
              rw [up_sl e, zup_ne (by omega), zup_ne (by omega), zup_ne (by omega), zup_ne (by omega), b1 54 (by omega) (by omega)]
            have er : ∀ c, 24 ≤ c → c < 40 → c ≠ 24 + 2 * i → c ≠ 24 + 2 * i + 1 → (zup (zup (zup (zup (zup f1 0 6 0) 52 0 0) 52 1 0) 53 i (nI w)) 54 i (nI n)) c = f c := by
              intro c l1 l2 l3 l4
              rw [zup_ne (by omega), zup_ne (by omega), zup_ne (by omega), zup_ne (by omega), zup_ne (by omega), b1 c l3 l4]
            rw [e53, e54, er (24 + 2 * k) (by omega) (by omega) (by omega) (by omega), er (24 + 2 * k + 1) (by omega) (by omega) (by omega) (by omega)]
            refine ⟨old.1, old.2.1, old.2.2.1, fun j hj => ?_⟩
            rw [d2 _ (by omega), zup_ne (by omega), zup_ne (by omega), zup_ne (by omega), zup_ne (by omega), zup_ne (by omega), b1 55 (by omega) (by omega)]
            exact old.2.2.2 j hj
        · rw [d1 0 (by omega), d1 52 (by omega), zup_ne (by omega), zup_ne (by omega), zup_ne (by omega), zup_ne (by omega), up_at, zup_ne (by omega), zup_ne (by omega), up_at]
        · rw [d1 c c5, zup_ne c4, zup_ne c3, zup_ne c1, zup_ne c1, zup_ne c2, b1 c (by omega) (by omega)]
        · rw [d1 52 (by omega), zup_ne (by omega), zup_ne (by omega), up_sl j2, up_sl j1, zup_ne (by omega), b1 52 (by omega) (by omega)]
      · refine w_X6_found (w_X7_row (fun X hX => m_isRow_t hi (y1 (m_in0_t hw (by omega) rfl (y1 ⟨fun _ => ⟨fun c => absurd c q2, fun _ => ?_⟩, fun c => absurd q1 c⟩)))))
        refine w_X7_finding (hK _ _ (st_eq (v := 4) (iq_52 (iq0 4) (by omega)) ?_ up_at hI))
        rw [zup_ne (by omega), zup_ne (by omega), zup_ne (by omega)]
        exact up_at
      · exact w_X7_row (fun X hX => m_isRow_t hi (y1 (m_in0_t hw (by omega) rfl (y1 ⟨fun c => absurd c q1, fun _ => fin _ _ (z0 f)⟩))))
theorem p_drop : ∀ (a0 : Int32) (f : zF), Inv f → pr2 Inv mX6_drop mX7_drop [.int a0] f := by
  intro a0 f hI K hK
  have fin : ∀ r f', nz f f' → K r r f' := fun r f' h => hK r f' (Inv_nz hI h)
  rcases inOut a0 (n := 8) (by omega) with h0 | ⟨i, hi, rfl⟩
  · exact w_X6_drop (q_rowOf_f h0 ⟨fun _ => w_X7_drop (m_isRow_f h0 (y0' (fin _ _ (z0 f)))), fun k1 e1 => (nomatch e1)⟩)
  · refine w_X6_drop (q_rowOf hi ⟨fun c => (nomatch c), fun k1 e1 => ?_⟩)
    obtain rfl := Option.some.inj e1
    have hR := hI.1 i hi
    refine ⟨rows_is hi, q_isMissing hi hR (fun hm => y0 ?_) (fun hm => y1 ?_)⟩
    · refine w_X4_makeMissing (rows_is hi) (w_X6_unfound (w_X7_drop (m_isRow_t hi (y1' ⟨vp_in_nI hi (by omega), fun _ => ⟨vp_in_nI hi (by omega), vp_in_nI hi (by omega), ?_⟩, fun c => absurd ?_ c⟩))))
      · rw [nI_clamp (by omega)]
        have e : (zup (zup (zup (zup f (24 + 2 * i) 1 (-1)) (24 + 2 * i) 2 0) 0 6 0) 52 0 0) 54 i = f (24 + 2 * i) 2 := by
          rw [zup_ne (by omega), zup_ne (by omega), zup_ne (by omega), zup_ne (by omega), (hR.2.2.1 hm).1]
        rw [e]
        refine hK _ _ (Inv_rows hI ?_ ?_ (fun c hc c1 c2 c3 c4 c5 => ?_) (fun j j1 j2 j3 j4 => ?_))
        · intro k hk
          have old := hI.1 k hk
          unfold iRw at old ⊢
          by_cases e : k = i
          · subst e
            rw [up_at]
            refine ⟨?_, Or.inl rfl, fun c => absurd rfl c, fun j hj => ?_⟩
            · rw [zup_ne (by omega), zup_ne (by omega), zup_ne (by omega), zup_ne (by omega), up_sl (by omega), up_at]
            · rw [zup_ne (by omega), zup_ne (by omega), zup_ne (by omega), zup_ne (by omega), zup_ne (by omega), zup_ne (by omega), zup_ne (by omega), zup_ne (by omega), zup_ne (by omega), zup_ne (by omega), zup_ne (by omega), zup_ne (by omega)]
              exact old.2.2.2 j hj
          · rw [up_sl e, zup_ne (q := 53) (by omega), zup_ne (q := 53) (by omega), zup_ne (q := 53) (by omega), zup_ne (q := 53) (by omega), zup_ne (q := 53) (by omega), zup_ne (q := 54) (by omega), zup_ne (q := 54) (by omega), zup_ne (q := 54) (by omega), zup_ne (q := 54) (by omega), zup_ne (q := 54) (by omega), zup_ne (q := 54) (by omega), zup_ne (q := 24 + 2 * k) (by omega), zup_ne (q := 24 + 2 * k) (by omega), zup_ne (q := 24 + 2 * k) (by omega), zup_ne (q := 24 + 2 * k) (by omega), zup_ne (q := 24 + 2 * k) (by omega), zup_ne (q := 24 + 2 * k) (by omega), zup_ne (q := 24 + 2 * k + 1) (by omega), zup_ne (q := 24 + 2 * k + 1) (by omega), zup_ne (q := 24 + 2 * k + 1) (by omega), zup_ne (q := 24 + 2 * k + 1) (by omega), zup_ne (q := 24 + 2 * k + 1) (by omega), zup_ne (q := 24 + 2 * k + 1) (by omega), zup_ne (q := 55) (by omega), zup_ne (q := 55) (by omega), zup_ne (q := 55) (by omega), zup_ne (q := 55) (by omega), zup_ne (q := 55) (by omega), zup_ne (q := 55) (by omega)]
            exact old
        · rw [zup_ne (by omega), zup_ne (by omega), zup_ne (by omega), up_at, zup_ne (by omega), up_at]
        · rw [zup_ne c3, zup_ne c1, zup_ne c1, zup_ne c2, zup_ne (by omega), zup_ne (by omega)]
        · rw [zup_ne (by omega), up_sl j2, up_sl j1, zup_ne (by omega), zup_ne (by omega), zup_ne (by omega)]
      · rw [nI_clamp (by omega), zup_ne (by omega), zup_ne (by omega), zup_ne (by omega), zup_ne (by omega)]
        exact (ln_pos hR.2.1).mpr hm
    · refine w_X6_found (w_X7_drop (m_isRow_t hi (y1' ⟨vp_in_nI hi (by omega), fun c => absurd hm ?_, fun _ => ?_⟩)))
      · rw [nI_clamp (by omega), zup_ne (by omega), zup_ne (by omega)] at c
        exact (ln_pos hR.2.1).mp c
      · refine w_X7_finding (hK _ _ (st_eq (v := 1) (iq_52 (iq_52 (iq_52 (iq_refl _) (by omega)) (by omega)) (by omega)) ?_ up_at hI))
        rw [zup_ne (by omega), zup_ne (by omega), zup_ne (by omega)]
        exact up_at
