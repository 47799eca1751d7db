/-! ===== pairs: set, copy, feed ===== -/
theorem nI_subI {a b : Nat} (h : b ≤ a) : nI a - nI b = nI (a - b) := pk_sub h
theorem q_holds_t {f : zF} {K : Int32 → zF → Prop} {i n a b : Nat} (hi : i < 8) (hl : f (24 + 2 * i) 2 = nI n) (hn : n ≤ 40) (hab : a + b ≤ n) (h : K 1 f) : ci mX4_holds [.ref (24 + 2 * i), .int (nI a), .int (nI b)] f K := by
  refine w_X4_holds (rows_is hi) ⟨fun c => absurd c (nI_pos (by omega)), fun _ => ⟨fun c => absurd c (nI_pos (by omega)), fun _ => ?_⟩⟩
  rw [hl]
  refine ⟨fun c => absurd c (nI_nlt (by omega) (by omega)), fun _ => ?_⟩
  rw [nI_subI (by omega)]
  exact ⟨fun c => absurd c (nI_nlt (by omega) (by omega)), fun _ => h⟩
/-- not held -/
def outH (x y : Int32) (n : Nat) : Prop := x < 0 ∨ y < 0 ∨ (n : Int) < x.toInt + y.toInt
theorem q_holds_f {f : zF} {K : Int32 → zF → Prop} {i n : Nat} {x y : Int32} (hi : i < 8) (hl : f (24 + 2 * i) 2 = nI n) (hn : n ≤ 40) (hx : outH x y n) (h : K 0 f) : ci mX4_holds [.ref (24 + 2 * i), .int x, .int y] f K := by
  refine w_X4_holds (rows_is hi) ⟨fun _ => h, fun c1 => ⟨fun _ => h, fun c2 => ?_⟩⟩
  rw [hl]
  refine ⟨fun _ => h, fun c3 => ⟨fun _ => h, fun c4 => ?_⟩⟩
  obtain ⟨a, ha, rfl⟩ := nI_of c1
  obtain ⟨b, hb, rfl⟩ := nI_of c2
  have c3 : a ≤ n := Nat.le_of_not_lt (fun z => c3 (nI_lt z (by omega)))
  rw [nI_subI c3] at c4
  have c4 : b ≤ n - a := Nat.le_of_not_lt (fun z => c4 (nI_lt z (by omega)))
  unfold outH at hx
  rw [nI_toInt (by omega), nI_toInt (by omega)] at hx
  rcases hx with hx | hx | hx
  · exact absurd hx c1
  · exact absurd hx c2
  · omega
theorem holds_or (x y : Int32) {n : Nat} (hn : n < 2 ^ 30) : outH x y n ∨ ∃ a b, x = nI a ∧ y = nI b ∧ a + b ≤ n := by
  by_cases c1 : x < 0
  · exact Or.inl (Or.inl c1)
  · by_cases c2 : y < 0
    · exact Or.inl (Or.inr (Or.inl c2))
    · by_cases c3 : (n : Int) < x.toInt + y.toInt
      · exact Or.inl (Or.inr (Or.inr c3))
      · obtain ⟨a, ha, rfl⟩ := nI_of c1
        obtain ⟨b, hb, rfl⟩ := nI_of c2
        rw [nI_toInt (by omega), nI_toInt (by omega)] at c3
        exact Or.inr ⟨a, b, rfl, rfl, by omega⟩
def laI (ln v : Int32) : Int32 := if ln = 0 then (Int32.toInt8 v).toInt32 else if ln = 1 then (Int32.toInt16 v).toInt32 else v
theorem p_set : ∀ (a0 a1 a2 : Int32) (f : zF), Inv f → pr2 Inv mX6_set mX7_set [.int a0, .int a1, .int a2] f := by
  intro a0 a1 a2 f hI K hK
  have fin : ∀ r f', nz f f' → K r r f' := fun r f' h => hK r f' (Inv_nz hI h)
  rcases inOut a0 (n := 8) (by omega) with h0 | ⟨i, hi, rfl⟩
  · exact w_X6_set (q_rowOf_f h0 ⟨fun _ => w_X7_set (m_isRow_f h0 (y0' (fin _ _ (z0 f)))), fun k1 e1 => (nomatch e1)⟩)
  · refine w_X6_set (q_rowOf hi ⟨fun c => (nomatch c), fun k1 e1 => ?_⟩)
    obtain rfl := Option.some.inj e1
    have hR := hI.1 i hi
    refine ⟨rows_is hi, q_isMissing hi hR (fun hm => y0 ?_) (fun hm => y1 ?_)⟩
    · obtain ⟨e2, n, hn, e3⟩ := hR.2.2.1 hm
      rcases inOut a1 (n := n) (by omega) with h1 | ⟨j, hj, rfl⟩
      · have ho : outH a1 (nI 1) n := by
          rcases h1 with h1 | h1
          · exact Or.inl h1
          · refine Or.inr (Or.inr ?_)
            have := Int32.le_iff_toInt_le.mp h1
            rw [nI_toInt (by omega)] at this
            rw [nI_toInt (by omega)]
            omega
        refine q_holds_f hi (e2.trans e3) hn ho (y0' (w_X6_found (w_X7_set (m_isRow_t hi (y1' ⟨vp_in_nI hi (by omega), fun _ => ⟨vp_in_nI hi (by omega), ?_⟩, fun c => absurd ?_ c⟩)))))
        · have e54 : (zup (zup f 0 6 2) 52 0 0) 54 (nI i).toNatClampNeg = nI n := by
            rw [nI_clamp (by omega), zup_ne (by omega), zup_ne (by omega)]
            exact e3
          rw [e54]
          refine m_in0_f h1 (by omega) (l_pred (by omega)) (y0' (w_X7_finding (hK _ _ (st_eq (v := 2) (iq_52 (iq_52 (iq_52 (iq_refl _) (by omega)) (by omega)) (by omega)) ?_ up_at hI))))
          rw [zup_ne (by omega), zup_ne (by omega), zup_ne (by omega)]
          exact up_at
        · rw [nI_clamp (by omega), zup_ne (by omega), zup_ne (by omega)]
          exact (ln_pos hR.2.1).mpr hm
      · refine q_holds_t (b := 1) hi (e2.trans e3) hn (by omega) (y1' (w_X4_store (rows_is hi) (fun z1 q1 => ?_)))
        have q1 : z1 = laI (f 53 i) a2 := by rw [q1, hR.1]; rfl
        rw [q1]
        refine q_put (n := 40) (rw_lt1 (rows_is hi)) (rw_sh1 (rows_is hi)) (by omega) (by omega) (w_X4_itemAt (rows_is hi) (q_item (n := 40) (rw_lt1 (rows_is hi)) (rw_sh1 (rows_is hi)) (by omega) (by omega) (w_X6_unfound ?_)))
        rw [up_at]
        have ix : 40 * nI i + nI j = nI (40 * i + j) := by rw [show (40 : Int32) = nI 40 from rfl, pk_mul, nI_add]
        -- how it ends
        have fin2 : K (laI (f 53 i) a2) (laI (f 53 i) a2) (zup (zup (zup (zup (zup f (24 + 2 * i + 1) j (laI (f 53 i) a2)) 0 6 0) 52 0 0) 52 1 0) 55 (40 * i + j) (laI (f 53 i) a2)) := by
          refine hK _ _ (Inv_rows hI ?_ ?_ (fun c hc c1 c2 c3 c4 c5 => ?_) (fun j j1 j2 j3 j4 => ?_))
          · intro k hk
            have old := hI.1 k hk
            unfold iRw at old ⊢
            have e0 : ∀ c, c ≠ 24 + 2 * i + 1 → c ≠ 0 → c ≠ 52 → c ≠ 55 → (zup (zup (zup (zup (zup f (24 + 2 * i + 1) j (laI (f 53 i) a2)) 0 6 0) 52 0 0) 52 1 0) 55 (40 * i + j) (laI (f 53 i) a2)) c = f c := by
              intro c l1 l2 l3 l4
              rw [zup_ne l4, zup_ne l3, zup_ne l3, zup_ne l2, zup_ne l1]
            rw [e0 (24 + 2 * k) (by omega) (by omega) (by omega) (by omega), e0 53 (by omega) (by omega) (by omega) (by omega), e0 54 (by omega) (by omega) (by omega) (by omega)]
            refine ⟨old.1, old.2.1, old.2.2.1, fun m hm2 => ?_⟩
            by_cases e : k = i ∧ m = j
            · obtain ⟨rfl, rfl⟩ := e
              rw [up_at, zup_ne (by omega), zup_ne (by omega), zup_ne (by omega), zup_ne (by omega), up_at]
            · rw [up_sl (by omega), zup_ne (q := 55) (by omega), zup_ne (q := 55) (by omega), zup_ne (q := 55) (by omega), zup_ne (q := 55) (by omega)]
              by_cases e5 : k = i
              · subst e5
                rw [zup_ne (by omega), zup_ne (by omega), zup_ne (by omega), zup_ne (by omega), up_sl (fun z => e ⟨rfl, z⟩)]
                exact old.2.2.2 m hm2
              · rw [e0 (24 + 2 * k + 1) (by omega) (by omega) (by omega) (by omega)]
                exact old.2.2.2 m hm2
          · rw [zup_ne (by omega), zup_ne (by omega), zup_ne (by omega), up_at, zup_ne (by omega), up_at]
          · rw [zup_ne c5, zup_ne c1, zup_ne c1, zup_ne c2, zup_ne (by omega)]
          · rw [zup_ne (by omega), up_sl j2, up_sl j1, zup_ne (by omega), zup_ne (by omega)]
        have e53 : ∀ v, (zup (zup (zup (zup f (24 + 2 * i + 1) j (laI (f 53 i) a2)) 0 6 0) 52 0 0) 52 1 v) 53 i = f 53 i := by
          intro v
          rw [zup_ne (by omega), zup_ne (by omega), zup_ne (by omega), zup_ne (by omega)]
        have e53' : (zup (zup (zup f (24 + 2 * i + 1) j (laI (f 53 i) a2)) 0 6 0) 52 0 0) 53 i = f 53 i := by
          rw [zup_ne (by omega), zup_ne (by omega), zup_ne (by omega)]
        have e54 : (zup (zup (zup f (24 + 2 * i + 1) j (laI (f 53 i) a2)) 0 6 0) 52 0 0) 54 i = nI n := by
          rw [zup_ne (by omega), zup_ne (by omega), zup_ne (by omega)]
          exact e3
        refine w_X7_set (m_isRow_t hi (y1' ⟨vp_in_nI hi (by omega), fun _ => ⟨vp_in_nI hi (by omega), ?_⟩, fun c => absurd ?_ c⟩))
        · rw [nI_clamp (by omega), e54]
          refine m_in0_t hj (by omega) (l_pred (by omega)) (y1' ⟨vp_in_nI hi (by omega), ?_⟩)
          rw [e53, ix, nI_clamp (by omega)]
          refine ⟨fun c => ⟨vp_in_nI hi (by omega), fun z3 q3 => ⟨vp_in_nI (by omega) (by omega), vp_in_nI (by omega) (by omega), ?_⟩⟩, fun c => ⟨vp_in_nI (by omega) (by omega), vp_in_nI (by omega) (by omega), ?_⟩⟩
          · have q3 : z3 = laI (f 53 i) a2 := by
              rw [q3]
              unfold laI
              rw [if_neg c]
            rw [q3]
            exact fin2
          · have q3 : (Int32.toInt8 a2).toInt32 = laI (f 53 i) a2 := by
              unfold laI
              rw [if_pos c]
            rw [q3]
            exact fin2
        · rw [nI_clamp (by omega), e53']
          exact (ln_pos hR.2.1).mpr hm
    · refine w_X6_found (w_X7_set (m_isRow_t hi (y1' ⟨vp_in_nI hi (by omega), fun c => absurd hm ?_, fun _ => ?_⟩)))
      · rw [nI_clamp (by omega), zup_ne (by omega), zup_ne (by omega)] at c
        exact (ln_pos hR.2.1).mp c
      · refine w_X7_finding (hK _ _ (st_eq (v := 1) (iq_52 (iq_52 (iq_52 (iq_refl _) (by omega)) (by omega)) (by omega)) ?_ up_at hI))
        rw [zup_ne (by omega), zup_ne (by omega), zup_ne (by omega)]
        exact up_at
theorem byte_I (x : Int64) : ∃ b : Nat, b < 256 ∧ (x &&& 255).toInt32 = nI b := by
  obtain ⟨j, hj, e⟩ := pk_andE x.toInt32 (m := 255) 8 rfl
  refine ⟨j, hj, ?_⟩
  rw [Int64.toInt32_and]
  exact e
/-- the tape, both -/
theorem q_append {f : zF} {K : Int32 → zF → Prop} {w : Int64} {m n : Nat} (hm : m ≤ 8) (hn : f 4 1 = nI n) (hmn : n + m ≤ 400) (h : ∀ f', (∀ c, c ≠ 4 → c ≠ 5 → f' c = f c) → (∀ j, j ≠ 1 → f' 4 j = f 4 j) → f' 4 1 = nI (n + m) → (∀ j, j < n → f' 5 j = f 5 j) → (∀ j, j < m → f' 5 (n + j) = ((w >>> (Int32.toInt64 (8 * nI (m - 1 - j)) &&& 63)) &&& 255).toInt32) → K 1 f') {x3 : Int32} {X : zX} (hX : kR X (zRi K)) : Z X mX5_append 19 [(0, .ref 4), (1, .long w), (3, .int x3), (4, .int (nI m - 1))] [] (zC f) := by
  have key : ∀ k g, k ≤ m → (∀ c, c ≠ 4 → c ≠ 5 → g c = f c) → (∀ j, j ≠ 1 → g 4 j = f 4 j) → g 4 1 = nI (n + (m - k)) → (∀ j, j < n → g 5 j = f 5 j) → (∀ j, j < m - k → g 5 (n + j) = ((w >>> (Int32.toInt64 (8 * nI (m - 1 - j)) &&& 63)) &&& 255).toInt32) → Z X mX5_append 19 [(0, .ref 4), (1, .long w), (3, .int x3), (4, .int (nI k - 1))] [] (zC g) := by
    intro k
    induction k with
    | zero =>
      intro g hk h1 h2 h3 h4 h5
      exact l_X5_append_19 hX ⟨fun _ => h g h1 h2 (by rw [h3]; rfl) h4 (fun j hj => h5 j (by omega)), fun q => absurd (by decide) q⟩
    | succ k ih =>
      intro g hk h1 h2 h3 h4 h5
      refine l_X5_append_19 hX ⟨fun q => ?_, fun _ z1 e1 => ?_⟩
      · rw [nI_pred] at q
        exact absurd q (nI_pos (by omega))
      · rw [nI_pred] at e1 ⊢
        rw [h3]
        refine q_put (n := 400) (by decide) rfl (by omega) (by omega) ?_
        rw [show nI k + -1 = nI k - 1 from (Int32.sub_eq_add_neg (nI k) 1).symm, zup_ne (by omega), h3, nI_1]
        refine ih _ (by omega) (fun c c1 c2 => by rw [zup_ne c1, zup_ne c2]; exact h1 c c1 c2) (fun j hj => ?_) ?_ (fun j hj => ?_) (fun j hj => ?_)
        · rw [up_sl hj, zup_ne (by omega)]
          exact h2 j hj
        · rw [up_at]
          congr 1
          omega
        · rw [zup_ne (by omega), up_sl (by omega)]
          exact h4 j hj
        · rw [zup_ne (by omega), zup_eq]
          show (if n + j = n + (m - (k + 1)) then z1 else g 5 (n + j)) = _
          by_cases e : j = m - (k + 1)
          · rw [if_pos (by omega), e1, show m - 1 - j = k by omega]
          · rw [if_neg (by omega)]
            exact h5 j (by omega)
  exact key m f (by omega) (fun _ _ _ => rfl) (fun _ _ => rfl) (by rw [hn]; congr 1; omega) (fun _ _ => rfl) (fun j hj => absurd hj (by omega))
theorem m_feed {f : zF} {K : Int32 → zF → Prop} {w : Int64} {m n : Nat} (hm : m ≤ 8) (hn : f 52 10 = nI n) (hmn : n + m ≤ 400) (h : ∀ f', (∀ c, c ≠ 52 → c ≠ 59 → f' c = f c) → (∀ j, j ≠ 10 → f' 52 j = f 52 j) → f' 52 10 = nI (n + m) → (∀ j, j < n → f' 59 j = f 59 j) → (∀ j, j < m → f' 59 (n + j) = ((w >>> (Int32.toInt64 (8 * nI (m - 1 - j)) &&& 63)) &&& 255).toInt32) → K (nI (n + m)) f') {x3 : Int32} {X : zX} (hX : kR X (zRi K)) : Z X mX7_feed 40 [(0, .ref 52), (1, .long w), (3, .int x3), (4, .int (nI m - 1))] [] (zC f) := by
  have key : ∀ k g, k ≤ m → (∀ c, c ≠ 52 → c ≠ 59 → g c = f c) → (∀ j, j ≠ 10 → g 52 j = f 52 j) → g 52 10 = nI (n + (m - k)) → (∀ j, j < n → g 59 j = f 59 j) → (∀ j, j < m - k → g 59 (n + j) = ((w >>> (Int32.toInt64 (8 * nI (m - 1 - j)) &&& 63)) &&& 255).toInt32) → Z X mX7_feed 40 [(0, .ref 52), (1, .long w), (3, .int x3), (4, .int (nI k - 1))] [] (zC g) := by
    intro k
    induction k with
    | zero =>
      intro g hk h1 h2 h3 h4 h5
      refine l_X7_feed_40 hX ⟨fun _ => ?_, fun q => absurd (by decide) q⟩
      rw [h3]
      exact h g h1 h2 (by rw [h3]; rfl) h4 (fun j hj => h5 j (by omega))
    | succ k ih =>
      intro g hk h1 h2 h3 h4 h5
      refine l_X7_feed_40 hX ⟨fun q => ?_, fun _ z1 e1 => ?_⟩
      · rw [nI_pred] at q
        exact absurd q (nI_pos (by omega))
      · rw [nI_pred] at e1 ⊢
        rw [h3, nI_clamp (by omega)]
        refine ⟨vp_in_nI (by omega) (by omega), ?_⟩
        rw [show nI k + -1 = nI k - 1 from (Int32.sub_eq_add_neg (nI k) 1).symm, nI_1]
        refine ih _ (by omega) (fun c c1 c2 => by rw [zup_ne c1, zup_ne c2]; exact h1 c c1 c2) (fun j hj => ?_) ?_ (fun j hj => ?_) (fun j hj => ?_)
        · rw [up_sl hj, zup_ne (by omega)]
          exact h2 j hj
        · rw [up_at]
          congr 1
          omega
        · rw [zup_ne (by omega), up_sl (by omega)]
          exact h4 j hj
        · rw [zup_ne (by omega), zup_eq]
          show (if n + j = n + (m - (k + 1)) then z1 else g 59 (n + j)) = _
          by_cases e : j = m - (k + 1)
          · rw [if_pos (by omega), e1, show m - 1 - j = k by omega]
          · rw [if_neg (by omega)]
            exact h5 j (by omega)
  exact key m f (by omega) (fun _ _ _ => rfl) (fun _ _ => rfl) (by rw [hn]; congr 1; omega) (fun _ _ => rfl) (fun j hj => absurd hj (by omega))
