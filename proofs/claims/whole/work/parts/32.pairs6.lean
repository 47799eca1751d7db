/-! ===== pairs: feed, copy ===== -/
/-- what the tape doesn't touch -/
theorem Inv_tape {f f' : zF} (hI : Inv f) (hT : iTape f') (h1 : ∀ c, c ≠ 4 → c ≠ 5 → c ≠ 52 → c ≠ 59 → f' c = f c) (h2 : ∀ j, j ≠ 0 → j ≠ 10 → f' 52 j = f 52 j) : Inv f' := by
  obtain ⟨a, b, c, d, e, g0, g⟩ := hI
  refine ⟨?_, hT, ?_, ?_, ?_, ?_, ?_⟩
  · intro i hi
    have a := a i hi
    unfold iRw at a ⊢
    rw [h1 53 (by omega) (by omega) (by omega) (by omega), h1 54 (by omega) (by omega) (by omega) (by omega), h1 55 (by omega) (by omega) (by omega) (by omega), h1 (24 + 2 * i) (by omega) (by omega) (by omega) (by omega), h1 (24 + 2 * i + 1) (by omega) (by omega) (by omega) (by omega)]
    exact a
  · obtain ⟨H, na, lt, x1, x2, x3, x4, x5, x6, x7, x8, x9⟩ := c
    refine ⟨H, na, lt, x1, x2, x3, ?_, ?_⟩
    · unfold CP
      rw [h1 12 (by omega) (by omega) (by omega) (by omega), h1 (12 + 1) (by omega) (by omega) (by omega) (by omega), h1 (12 + 2) (by omega) (by omega) (by omega) (by omega), h1 (12 + 3) (by omega) (by omega) (by omega) (by omega), h1 (12 + 4) (by omega) (by omega) (by omega) (by omega), h1 (12 + 5) (by omega) (by omega) (by omega) (by omega)]
      exact x4
    · rw [h1 56 (by omega) (by omega) (by omega) (by omega), h1 18 (by omega) (by omega) (by omega) (by omega), h1 58 (by omega) (by omega) (by omega) (by omega), h2 8 (by omega) (by omega)]
      refine ⟨x5, x6, x7, x8, fun t ht => ⟨(x9 t ht).1, iAct_eq ?_ ?_ ?_ (x9 t ht).2⟩⟩ <;> rw [h1 _ (by omega) (by omega) (by omega) (by omega)]
  · intro k hk
    obtain ⟨A, ok, hP, hm⟩ := d k hk
    refine ⟨A, ok, ?_, ?_⟩
    · unfold CP
      rw [h1 (40 + 6 * k) (by omega) (by omega) (by omega) (by omega), h1 (40 + 6 * k + 1) (by omega) (by omega) (by omega) (by omega), h1 (40 + 6 * k + 2) (by omega) (by omega) (by omega) (by omega), h1 (40 + 6 * k + 3) (by omega) (by omega) (by omega) (by omega), h1 (40 + 6 * k + 4) (by omega) (by omega) (by omega) (by omega), h1 (40 + 6 * k + 5) (by omega) (by omega) (by omega) (by omega)]
      exact hP
    · rw [h1 60 (by omega) (by omega) (by omega) (by omega), h1 61 (by omega) (by omega) (by omega) (by omega)]
      exact hm
  · unfold iTr at e ⊢
    rw [h1 22 (by omega) (by omega) (by omega) (by omega), h1 23 (by omega) (by omega) (by omega) (by omega), h1 62 (by omega) (by omega) (by omega) (by omega), h2 24 (by omega) (by omega)]
    exact e
  · rw [h1 0 (by omega) (by omega) (by omega) (by omega), h2 1 (by omega) (by omega)]
    exact g0
  · rw [h1 3 (by omega) (by omega) (by omega) (by omega), h2 11 (by omega) (by omega)]
    exact g
theorem p_feed : ∀ (a0 : Int64) (a1 : Int32) (f : zF), Inv f → pr2 Inv mX6_feed mX7_feed [.long a0, .int a1] f := by
  intro a0 a1 f hI K hK
  have fin : ∀ r f', nz f f' → K r r f' := fun r f' h => hK r f' (Inv_nz hI h)
  obtain ⟨n, hn, t1, t2, t3⟩ := hI.2.1
  by_cases hb : 1 ≤ a1.toInt ∧ a1.toInt ≤ 8
  · obtain ⟨m, h0, hm, rfl⟩ : ∃ m : Nat, 1 ≤ m ∧ m ≤ 8 ∧ a1 = nI m := by
      refine ⟨a1.toInt.toNat, by omega, by omega, ?_⟩
      apply Int32.toInt_inj.mp
      rw [nI_toInt (by omega)]
      omega
    refine w_X6_feed ⟨fun c => absurd c (nI_nlt (b := 1) (by omega) (by omega)), fun _ => ⟨fun _ => ?_, fun c => absurd (nI_le (b := 8) (by omega) (by omega)) c⟩⟩
    have min : ∀ {g : zF} {K2 : Int32 → zF → Prop}, K2 1 g → ci mX7_in [.long (nI m).toInt64, .long 1, .long 8] g K2 := by
      intro g K2 h
      refine m_in_t ?_ ?_ h
      · rw [Int32.toInt_toInt64, nI_toInt (by omega)]
        show (1 : Int) ≤ _
        omega
      · rw [Int32.toInt_toInt64, nI_toInt (by omega)]
        show _ ≤ (8 : Int)
        omega
    refine w_X5_append (fun X hX => ?_)
    rw [t1]
    have e4 : (400 : Int32) - nI n = nI (400 - n) := nI_subI (a := 400) (by omega)
    rw [e4]
    by_cases hf : n + m ≤ 400
    · refine ⟨fun _ => ?_, fun c => absurd (nI_le (by omega) (by omega)) c⟩
      refine q_append hm t1 hf (fun f1 b1 b2 b3 b4 b5 => y1 ?_) hX
      rw [b3]
      refine w_X7_feed (fun X hX => min (y1' ?_))
      have e10 : (zup f1 52 0 0) 52 10 = nI n := by rw [up_sl (by omega), b1 52 (by omega) (by omega)]; exact t2
      rw [e10, nI_add]
      refine ⟨fun _ => ?_, fun c => absurd (nI_le (b := 400) (by omega) (by omega)) c⟩
      refine m_feed hm e10 hf (fun f2 d1 d2 d3 d4 d5 => hK _ _ ?_) hX
      refine Inv_tape hI ⟨n + m, hf, ?_, d3, fun j hj => ?_⟩ (fun c c1 c2 c3 c4 => ?_) (fun j j1 j2 => ?_)
      · rw [d1 4 (by omega) (by omega), zup_ne (by omega), b3]
      · rw [d1 5 (by omega) (by omega), zup_ne (by omega)]
        by_cases q : j < n
        · rw [b4 j q, d4 j q, zup_ne (by omega), b1 59 (by omega) (by omega)]
          exact t3 j q
        · obtain ⟨i, rfl⟩ : ∃ i, j = n + i := ⟨j - n, by omega⟩
          rw [b5 i (by omega), d5 i (by omega)]
          exact ⟨rfl, byte_I _⟩
      · rw [d1 c c3 c4, zup_ne c3, b1 c c1 c2]
      · rw [d2 j j2, up_sl j1, b1 52 (by omega) (by omega)]
    · refine ⟨fun c => absurd c (nI_ge (by omega) (by omega)), fun _ => y0 ?_⟩
      refine w_X7_feed (fun X hX => min (y1' ?_))
      have e10 : (zup f 52 0 0) 52 10 = nI n := by rw [up_sl (by omega)]; exact t2
      rw [e10, nI_add]
      exact ⟨fun c => absurd c (nI_ge (a := 400) (by omega) (by omega)), fun _ => fin _ _ (z0 f)⟩
  · have e : ci mX7_feed [.ref 52, .long a0, .int a1] f (fun r2 f2 => K (-1000001) r2 f2) := by
      refine w_X7_feed (fun X hX => m_in_f ?_ (y0' (fin _ _ (z0 f))))
      rw [Int32.toInt_toInt64]
      show a1.toInt < 1 ∨ 8 < a1.toInt
      omega
    refine w_X6_feed ⟨fun _ => e, fun c1 => ⟨fun c2 => absurd ?_ hb, fun _ => e⟩⟩
    have c1 := Int32.le_iff_toInt_le.mp (Int32.not_lt.mp c1)
    have c2 := Int32.le_iff_toInt_le.mp c2
    exact ⟨c1, c2⟩
/-- the reference's copy, over itself too -/
theorem m_copy_loop {f : zF} {K : Int32 → zF → Prop} {a i b j n : Nat} (ha : a < 8) (hb : b < 8) (hi : i + n ≤ 40) (hj : j + n ≤ 40) {X : zX} (hX : kR X (zRi K)) (h : ∀ f', (∀ c, c ≠ 55 → f' c = f c) → (∀ q, f' 55 q = if 40 * b + j ≤ q ∧ q < 40 * b + j + n then f 55 (40 * a + i + (q - (40 * b + j))) else f 55 q) → K (nI n) f') : Z X mX7_copy 143 [(0, .ref 52), (1, .int (nI a)), (2, .int (nI i)), (3, .int (nI b)), (4, .int (nI j)), (5, .int (nI n)), (6, .int (if nI i < nI j then 0 else 1)), (7, .int 0)] [] (zC f) := by
  have ex : ∀ (a i s : Nat), 40 * nI a + nI i + nI s = nI (40 * a + i + s) := by
    intro a i s
    rw [show (40 : Int32) = nI 40 from rfl, pk_mul, nI_add, nI_add]
  by_cases q : i < j
  · rw [if_pos (nI_lt q (by omega))]
    have key : ∀ k x g, x + k = n → (∀ c, c ≠ 55 → g c = f c) → (∀ q, g 55 q = if 40 * b + j + (n - x) ≤ q ∧ q < 40 * b + j + n then f 55 (40 * a + i + (q - (40 * b + j))) else f 55 q) → Z X mX7_copy 143 [(0, .ref 52), (1, .int (nI a)), (2, .int (nI i)), (3, .int (nI b)), (4, .int (nI j)), (5, .int (nI n)), (6, .int 0), (7, .int (nI x))] [] (zC g) := by
      intro k
      induction k with
      | zero =>
        intro x g hx h1 h2
        have e : x = n := by omega
        subst e
        refine l_X7_copy_143 hX ⟨fun _ => h g h1 (fun q => ?_), fun c => absurd (Int32.le_refl _) c⟩
        rw [h2 q, Nat.sub_self, Nat.add_zero]
      | succ k ih =>
        intro x g hx h1 h2
        refine l_X7_copy_143 hX ⟨fun c => absurd c (nI_ge (by omega) (by omega)), fun _ z1 e1 => ?_⟩
        have e1 : z1 = nI (n - 1 - x) := by
          rw [e1, if_pos rfl, show (1 : Int32) = nI 1 from rfl, nI_subI (by omega), nI_subI (by omega)]
        rw [e1, ex, ex, nI_clamp (by omega), nI_clamp (by omega), ← nI_succ]
        refine ⟨vp_in_nI (by omega) (by omega), vp_in_nI (by omega) (by omega), ih (x + 1) _ (by omega) (fun c hc => by rw [zup_ne hc]; exact h1 c hc) (fun q => ?_)⟩
        rw [zup_eq]
        show (if q = 40 * b + j + (n - 1 - x) then g 55 (40 * a + i + (n - 1 - x)) else g 55 q) = _
        by_cases e : q = 40 * b + j + (n - 1 - x)
        · rw [if_pos e, if_pos (by omega), h2, if_neg (by omega)]
          congr 1
          omega
        · rw [if_neg e, h2]
          by_cases e2 : 40 * b + j + (n - x) ≤ q ∧ q < 40 * b + j + n
          · rw [if_pos e2, if_pos (by omega)]
          · rw [if_neg e2, if_neg (by omega)]
    exact key n 0 f (by omega) (fun _ _ => rfl) (fun q => by rw [if_neg (by omega)])
  · rw [if_neg (nI_nlt (by omega) (by omega))]
    have key : ∀ k x g, x + k = n → (∀ c, c ≠ 55 → g c = f c) → (∀ q, g 55 q = if 40 * b + j ≤ q ∧ q < 40 * b + j + x then f 55 (40 * a + i + (q - (40 * b + j))) else f 55 q) → Z X mX7_copy 143 [(0, .ref 52), (1, .int (nI a)), (2, .int (nI i)), (3, .int (nI b)), (4, .int (nI j)), (5, .int (nI n)), (6, .int 1), (7, .int (nI x))] [] (zC g) := by
      intro k
      induction k with
      | zero =>
        intro x g hx h1 h2
        have e : x = n := by omega
        subst e
        exact l_X7_copy_143 hX ⟨fun _ => h g h1 h2, fun c => absurd (Int32.le_refl _) c⟩
      | succ k ih =>
        intro x g hx h1 h2
        refine l_X7_copy_143 hX ⟨fun c => absurd c (nI_ge (by omega) (by omega)), fun _ z1 e1 => ?_⟩
        have e1 : z1 = nI x := by
          rw [e1, if_neg (by decide)]
        rw [e1, ex, ex, nI_clamp (by omega), nI_clamp (by omega), ← nI_succ]
        refine ⟨vp_in_nI (by omega) (by omega), vp_in_nI (by omega) (by omega), ih (x + 1) _ (by omega) (fun c hc => by rw [zup_ne hc]; exact h1 c hc) (fun q => ?_)⟩
        rw [zup_eq]
        show (if q = 40 * b + j + x then g 55 (40 * a + i + x) else g 55 q) = _
        by_cases e : q = 40 * b + j + x
        · rw [if_pos e, if_pos (by omega), h2, if_neg (by omega)]
          congr 1
          omega
        · rw [if_neg e, h2]
          by_cases e2 : 40 * b + j ≤ q ∧ q < 40 * b + j + x
          · rw [if_pos e2, if_pos (by omega)]
          · rw [if_neg e2, if_neg (by omega)]
    exact key n 0 f (by omega) (fun _ _ => rfl) (fun q => by rw [if_neg (by omega)])
theorem lg_sum (x y : Int32) {n : Nat} (hn : n < 2 ^ 31) : (0 < lg_cmp (x.toInt64 + y.toInt64) (nI n).toInt64 ↔ (n : Int) < x.toInt + y.toInt) ∧ (lg_cmp (x.toInt64 + y.toInt64) (nI n).toInt64 ≤ 0 ↔ x.toInt + y.toInt ≤ n) := by
  constructor
  · rw [lg_cmp_gt, Int64.lt_iff_toInt_lt, lg_i2l_add, Int32.toInt_toInt64, nI_toInt hn]
  · rw [lg_cmp_le, Int64.le_iff_toInt_le, lg_i2l_add, Int32.toInt_toInt64, nI_toInt hn]
theorem p_copy : ∀ (a0 a1 a2 a3 a4 : Int32) (f : zF), Inv f → pr2 Inv mX6_copy mX7_copy [.int a0, .int a1, .int a2, .int a3, .int a4] f := by
  intro a0 a1 a2 a3 a4 f hI K hK
  have fin : ∀ r f', nz f f' → K r r f' := fun r f' h => hK r f' (Inv_nz hI h)
  rcases inOut a0 (n := 8) (by omega) with h0 | ⟨a, ha, rfl⟩
  · have e : ci mX7_copy [.ref 52, .int a0, .int a1, .int a2, .int a3, .int a4] f (fun r2 f2 => K (-1000001) r2 f2) := w_X7_copy (fun X hX => m_isRow_f h0 (y0 (fin _ _ (z0 f))))
    refine w_X6_copy (q_rowOf_f h0 ⟨fun _ => ?_, fun k1 e1 => (nomatch e1)⟩)
    rcases inOut a2 (n := 8) (by omega) with h2 | ⟨b, hb, rfl⟩
    · exact q_rowOf_f h2 ⟨fun _ => e, fun k1 e1 => (nomatch e1)⟩
    · refine q_rowOf hb ⟨fun _ => e, fun k1 e1 => ?_⟩
      obtain rfl := Option.some.inj e1
      exact ⟨rows_is hb, e⟩
  · rcases inOut a2 (n := 8) (by omega) with h2 | ⟨b, hb, rfl⟩
    · have e : ci mX7_copy [.ref 52, .int (nI a), .int a1, .int a2, .int a3, .int a4] f (fun r2 f2 => K (-1000001) r2 f2) := w_X7_copy (fun X hX => m_isRow_t ha (y1 (m_isRow_f h2 (y0' (fin _ _ (z0 f))))))
      refine w_X6_copy (q_rowOf ha ⟨fun c => (nomatch c), fun k1 e1 => ?_⟩)
      obtain rfl := Option.some.inj e1
      exact ⟨rows_is ha, q_rowOf_f h2 ⟨fun _ => e, fun k1 e1 => (nomatch e1)⟩⟩
    · have hA := hI.1 a ha
      have hB := hI.1 b hb
      -- the reference up to a finding v
      have e53 : ∀ (v : Int32) (c : Nat), (zup (zup f 0 6 v) 52 0 0) 53 c = f 53 c := by
        intro v c
        rw [zup_ne (by omega), zup_ne (by omega)]
      have e54 : ∀ (v : Int32) (c : Nat), (zup (zup f 0 6 v) 52 0 0) 54 c = f 54 c := by
        intro v c
        rw [zup_ne (by omega), zup_ne (by omega)]
      have found : ∀ v : Int32, ci mX7_finding [.ref 52, .int v] (zup (zup (zup f 0 6 v) 52 0 0) 52 1 0) (fun r2 f2 => K (-1000010 - v) r2 f2) := by
        intro v
        refine w_X7_finding (hK _ _ (st_eq (v := v) (iq_52 (iq_52 (iq_52 (iq_refl _) (by omega)) (by omega)) (by omega)) ?_ up_at hI))
        rw [zup_ne (by omega), zup_ne (by omega), zup_ne (by omega)]
        exact up_at
      refine w_X6_copy (q_rowOf ha ⟨fun c => (nomatch c), fun k1 e1 => ?_⟩)
      obtain rfl := Option.some.inj e1
      refine ⟨rows_is ha, q_rowOf hb ⟨fun c => (nomatch c), fun k3 e3 => ?_⟩⟩
      obtain rfl := Option.some.inj e3
      refine ⟨rows_is hb, q_isMissing ha hA (fun ma => y0' ?_) (fun ma => y1' (w_X6_found ?_))⟩
      · refine q_isMissing hb hB (fun mb => y0 ?_) (fun mb => y1 (w_X6_found ?_))
        · obtain ⟨la, na, hna, lna⟩ := hA.2.2.1 ma
          obtain ⟨lb, nb, hnb, lnb⟩ := hB.2.2.1 mb
          rw [hA.1, hB.1]
          refine ⟨fun el => ?_, fun el => w_X6_found ?_⟩
          · -- the reference past the lanes
            have past : ∀ (v : Int32) (K2 : Int32 → zF → Prop) (hk : ∀ X, kR X (zRi K2) → ((a1 < 0 → ci mX7_finding [.ref 52, .int 2] (zup (zup (zup f 0 6 v) 52 0 0) 52 1 0) (fun r4 f4 => K2 r4 f4)) ∧ (¬ a1 < 0 → ((a3 < 0 → ci mX7_finding [.ref 52, .int 2] (zup (zup (zup f 0 6 v) 52 0 0) 52 1 0) (fun r5 f5 => K2 r5 f5)) ∧ (¬ a3 < 0 → ((a4 < 0 → ci mX7_finding [.ref 52, .int 2] (zup (zup (zup f 0 6 v) 52 0 0) 52 1 0) (fun r6 f6 => K2 r6 f6)) ∧ (¬ a4 < 0 → (vp_in (nI a) 8 ∧ (∀ z7 : Int32, z7 = (lg_cmp ((Int32.toInt64 a1) + (Int32.toInt64 a4)) (Int32.toInt64 (nI na))) → ((0 < z7 → ci mX7_finding [.ref 52, .int 2] (zup (zup (zup f 0 6 v) 52 0 0) 52 1 0) (fun r8 f8 => K2 r8 f8)) ∧ (¬ 0 < z7 → (vp_in (nI b) 8 ∧ (∀ z9 : Int32, z9 = (lg_cmp ((Int32.toInt64 a3) + (Int32.toInt64 a4)) (Int32.toInt64 (nI nb))) → ((z9 ≤ 0 → (∀ z10 : Int32, z10 = (if a1 < a3 then 0 else 1) → Z X mX7_copy 143 [(0, .ref 52), (1, .int (nI a)), (2, .int a1), (3, .int (nI b)), (4, .int a3), (5, .int a4), (6, .int z10), (7, .int 0)] [] (zC (zup (zup (zup f 0 6 v) 52 0 0) 52 1 0)))) ∧ (¬ z9 ≤ 0 → ci mX7_finding [.ref 52, .int 2] (zup (zup (zup f 0 6 v) 52 0 0) 52 1 0) (fun r12 f12 => K2 r12 f12)))))))))))))))), ci mX7_copy [.ref 52, .int (nI a), .int a1, .int (nI b), .int a3, .int a4] (zup f 0 6 v) K2 := by
              intro v K2 hk
              refine w_X7_copy (fun X hX => m_isRow_t ha (y1 (m_isRow_t hb (y1' ⟨vp_in_nI ha (by omega), fun c => ?_, fun _ => ⟨vp_in_nI hb (by omega), fun _ => ⟨vp_in_nI ha (by omega), vp_in_nI hb (by omega), fun _ => ?_, fun c => ?_⟩, fun c => ?_⟩⟩))))
              · rw [nI_clamp (by omega), e53] at c
                exact absurd ((ln_neg hA.2.1).mp c) ma
              · rw [nI_clamp (by omega), nI_clamp (by omega), e54, e54, lna, lnb]
                exact hk X hX
              · rw [nI_clamp (by omega), nI_clamp (by omega), e53, e53] at c
                exact absurd el c
              · rw [nI_clamp (by omega), e53] at c
                exact absurd ((ln_pos hB.2.1).mpr mb) c
            rcases holds_or a1 a4 (n := na) (by omega) with o1 | ⟨i, n, rfl, rfl, h1⟩
            · refine q_holds_f ha (la.trans lna) hna o1 (y0 (w_X6_found (past 2 _ (fun X hX => ⟨fun _ => found 2, fun c1 => ⟨fun _ => found 2, fun c3 => ⟨fun _ => found 2, fun c4 => ⟨vp_in_nI ha (by omega), fun z7 e7 => ⟨fun _ => found 2, fun c7 => absurd ?_ c7⟩⟩⟩⟩⟩))))
              rcases o1 with o | o | o
              · exact absurd o c1
              · exact absurd o c4
              · rw [e7]
                exact (lg_sum _ _ (by omega)).1.mpr o
            · refine q_holds_t ha (la.trans lna) hna h1 (y1 ?_)
              have hs7 : ¬ 0 < lg_cmp ((nI i).toInt64 + (nI n).toInt64) (nI na).toInt64 := by
                rw [(lg_sum _ _ (by omega)).1, nI_toInt (by omega), nI_toInt (by omega)]
                omega
              rcases holds_or a3 (nI n) (n := nb) (by omega) with o3 | ⟨j, n2, rfl, en, h3⟩
              · refine q_holds_f hb (lb.trans lnb) hnb o3 (y0' (w_X6_found (past 2 _ (fun X hX => ⟨fun _ => found 2, fun c1 => ⟨fun _ => found 2, fun c3 => ⟨fun _ => found 2, fun c4 => ⟨vp_in_nI ha (by omega), fun z7 e7 => ⟨fun _ => found 2, fun c7 => ⟨vp_in_nI hb (by omega), fun z9 e9 => ⟨fun c9 => absurd ?_ (fun z : False => z), fun _ => found 2⟩⟩⟩⟩⟩⟩⟩))))
                rw [e9] at c9
                have c9 := (lg_sum _ _ (by omega)).2.mp c9
                rcases o3 with o | o | o
                · exact absurd o c3
                · exact absurd o c4
                · omega
              · have en : n = n2 := by
                  have := congrArg Int32.toInt en
                  by_cases z : n < 2 ^ 31
                  · rw [nI_toInt z, nI_toInt (by omega)] at this
                    omega
                  · omega
                subst en
                refine q_holds_t hb (lb.trans lnb) hnb h3 (y1' (w_X4_takeItems (rows_is hb) (rows_is ha) (w_X6_copyItems (n0 := 40) (n2 := 40) (rw_lt1 (rows_is ha)) (rw_sh1 (rows_is ha)) (rw_lt1 (rows_is hb)) (rw_sh1 (rows_is hb)) ⟨fun c => absurd c (nI_pos (by omega)), fun _ => ⟨fun c => absurd c (nI_pos (by omega)), fun _ => ⟨fun _ => ⟨fun c => absurd c ?_, fun _ => ⟨fun c => absurd c ?_, fun _ => ⟨⟨nI_pos (by omega), nI_pos (by omega), nI_pos (by omega), ?_, ?_⟩, ?_⟩⟩⟩, fun c => absurd (nI_pos' (by omega)) c⟩⟩⟩)))
                · rw [nI_subI (by omega)]
                  exact nI_nlt (by omega) (by omega)
                · rw [nI_subI (by omega)]
                  exact nI_nlt (by omega) (by omega)
                · rw [nI_clamp (by omega), nI_clamp (by omega)]
                  omega
                · rw [nI_clamp (by omega), nI_clamp (by omega)]
                  omega
                · rw [nI_clamp (by omega), nI_clamp (by omega), nI_clamp (by omega)]
                  refine w_X6_unfound ?_
                  generalize hg : zcpyF f (24 + 2 * a + 1) (24 + 2 * b + 1) i j n = g
                  have g1 : ∀ c, c ≠ 24 + 2 * b + 1 → g c = f c := by
                    intro c hc
                    rw [← hg]
                    exact if_neg hc
                  have g2 : ∀ q, g (24 + 2 * b + 1) q = if j ≤ q ∧ q < j + n then f (24 + 2 * a + 1) (i + (q - j)) else f (24 + 2 * b + 1) q := by
                    intro q
                    rw [← hg]
                    have e : zcpyF f (24 + 2 * a + 1) (24 + 2 * b + 1) i j n (24 + 2 * b + 1) = va_cpy (f (24 + 2 * a + 1)) (f (24 + 2 * b + 1)) i j n := if_pos rfl
                    rw [e]
                    by_cases z : j ≤ q ∧ q < j + n
                    · rw [if_pos z, pk_cpy_in z.1 z.2]
                    · rw [if_neg z, pk_cpy_out (by omega)]
                  have m53 : ∀ c, (zup (zup g 0 6 0) 52 0 0) 53 c = f 53 c := by
                    intro c
                    rw [zup_ne (by omega), zup_ne (by omega), g1 53 (by omega)]
                  have m54 : ∀ c, (zup (zup g 0 6 0) 52 0 0) 54 c = f 54 c := by
                    intro c
                    rw [zup_ne (by omega), zup_ne (by omega), g1 54 (by omega)]
                  refine w_X7_copy (fun X hX => m_isRow_t ha (y1 (m_isRow_t hb (y1' ⟨vp_in_nI ha (by omega), fun c => ?_, fun _ => ⟨vp_in_nI hb (by omega), fun _ => ⟨vp_in_nI ha (by omega), vp_in_nI hb (by omega), fun _ => ?_, fun c => ?_⟩, fun c => ?_⟩⟩))))
                  · rw [nI_clamp (by omega), m53] at c
                    exact absurd ((ln_neg hA.2.1).mp c) ma
                  · rw [nI_clamp (by omega), nI_clamp (by omega), m54, m54, lna, lnb]
                    refine ⟨fun c => absurd c (nI_pos (by omega)), fun _ => ⟨fun c => absurd c (nI_pos (by omega)), fun _ => ⟨fun c => absurd c (nI_pos (by omega)), fun _ => ⟨vp_in_nI ha (by omega), fun z7 e7 => ⟨fun c => absurd c (by rw [e7]; exact hs7), fun _ => ⟨vp_in_nI hb (by omega), fun z9 e9 => ⟨fun _ z10 e10 => ?_, fun c => absurd ?_ c⟩⟩⟩⟩⟩⟩⟩
                    · rw [e10]
                      refine m_copy_loop ha hb (by omega) (by omega) hX (fun f2 d1 d2 => hK _ _ ?_)
                      refine Inv_rows hI ?_ ?_ (fun c hc c1 c2 c3 c4 c5 => ?_) (fun j j1 j2 j3 j4 => ?_)
                      · intro k hk
                        have old := hI.1 k hk
                        unfold iRw at old ⊢
                        have g0 : ∀ c, c ≠ 24 + 2 * b + 1 → c ≠ 0 → c ≠ 52 → (zup (zup (zup g 0 6 0) 52 0 0) 52 1 0) c = f c := by
                          intro c l1 l2 l3
                          rw [zup_ne l3, zup_ne l3, zup_ne l2, g1 c l1]
                        rw [d1 (24 + 2 * k) (by omega), d1 (24 + 2 * k + 1) (by omega), d1 53 (by omega), d1 54 (by omega), g0 (24 + 2 * k) (by omega) (by omega) (by omega), g0 53 (by omega) (by omega) (by omega), g0 54 (by omega) (by omega) (by omega)]
                        refine ⟨old.1, old.2.1, old.2.2.1, fun m hm => ?_⟩
                        rw [d2, g0 55 (by omega) (by omega) (by omega)]
                        by_cases e : k = b
                        · subst e
                          rw [zup_ne (by omega), zup_ne (by omega), zup_ne (by omega), g2]
                          by_cases z : j ≤ m ∧ m < j + n
                          · rw [if_pos z, if_pos (by omega), hA.2.2.2 _ (by omega)]
                            congr 1
                            omega
                          · rw [if_neg z, if_neg (by omega)]
                            exact old.2.2.2 m hm
                        · rw [g0 (24 + 2 * k + 1) (by omega) (by omega) (by omega), if_neg (by omega)]
                          exact old.2.2.2 m hm
                      · rw [d1 0 (by omega), d1 52 (by omega), zup_ne (by omega), zup_ne (by omega), up_at, up_at]
                      · rw [d1 c c5, zup_ne c1, zup_ne c1, zup_ne c2, g1 c (by omega)]
                      · rw [d1 52 (by omega), up_sl j2, up_sl j1, zup_ne (by omega), g1 52 (by omega)]
                    · rw [e9]
                      refine (lg_sum _ _ (by omega)).2.mpr ?_
                      rw [nI_toInt (by omega), nI_toInt (by omega)]
                      omega
                  · rw [nI_clamp (by omega), nI_clamp (by omega), m53, m53] at c
                    exact absurd el c
                  · rw [nI_clamp (by omega), m53] at c
                    exact absurd ((ln_pos hB.2.1).mpr mb) c
          · refine w_X7_copy (fun X hX => m_isRow_t ha (y1 (m_isRow_t hb (y1' ⟨vp_in_nI ha (by omega), fun c => ?_, fun _ => ⟨vp_in_nI hb (by omega), fun _ => ⟨vp_in_nI ha (by omega), vp_in_nI hb (by omega), fun c => ?_, fun _ => found 5⟩, fun c => ?_⟩⟩))))
            · rw [nI_clamp (by omega), e53] at c
              exact absurd ((ln_neg hA.2.1).mp c) ma
            · rw [nI_clamp (by omega), nI_clamp (by omega), e53, e53] at c
              exact absurd c el
            · rw [nI_clamp (by omega), e53] at c
              exact absurd ((ln_pos hB.2.1).mpr mb) c
        · refine w_X7_copy (fun X hX => m_isRow_t ha (y1 (m_isRow_t hb (y1' ⟨vp_in_nI ha (by omega), fun c => ?_, fun _ => ⟨vp_in_nI hb (by omega), fun c => ?_, fun _ => found 1⟩⟩))))
          · rw [nI_clamp (by omega), e53] at c
            exact absurd ((ln_neg hA.2.1).mp c) ma
          · rw [nI_clamp (by omega), e53] at c
            exact absurd mb ((ln_pos hB.2.1).mp c)
      · refine w_X7_copy (fun X hX => m_isRow_t ha (y1 (m_isRow_t hb (y1' ⟨vp_in_nI ha (by omega), fun _ => found 1, fun c => absurd ?_ c⟩))))
        rw [nI_clamp (by omega), e53]
        exact (ln_neg hA.2.1).mpr ma
