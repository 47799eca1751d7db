/-! ===== pages moved whole; acts ===== -/
theorem cpy_ne {f : zF} {q0 q1 a b n q : Nat} (h : q ≠ q1) : zcpyF f q0 q1 a b n q = f q := if_neg h
theorem cpy_at {f : zF} {q0 q1 n j : Nat} (h : j < n) : zcpyF f q0 q1 0 0 n q1 j = f q0 j := by
  have e : zcpyF f q0 q1 0 0 n q1 = va_cpy (f q0) (f q1) 0 0 n := if_pos rfl
  rw [e, pk_cpy_in (by omega) (by omega)]
  congr 1
  omega
theorem q_cpAll {f : zF} {K : zF → Prop} {q0 q1 n : Nat} (h0 : q0 < 63) (s0 : zSH q0 = (8, n)) (h1 : q1 < 63) (s1 : zSH q1 = (8, n)) (hn : n ≤ 400) (h : K (zcpyF f q0 q1 0 0 n)) : cv mX6_copyItems [.ref q0, .int 0, .ref q1, .int 0, .int (nI n)] f K := by
  refine w_X6_copyItems h0 s0 h1 s1 ⟨fun c => absurd c (by decide), fun _ => ⟨fun c => absurd c (by decide), fun _ => ⟨fun _ => ⟨fun c => ?_, fun _ => ⟨fun c => ?_, fun _ => ⟨⟨by decide, by decide, nI_pos (by omega), ?_, ?_⟩, ?_⟩⟩⟩, fun c => absurd (nI_pos' (by omega)) c⟩⟩⟩
  · rw [Int32.sub_zero] at c
    exact absurd c (nI_nlt (Nat.le_refl _) (by omega))
  · rw [Int32.sub_zero] at c
    exact absurd c (nI_nlt (Nat.le_refl _) (by omega))
  · rw [nI_clamp (by omega)]
    show 0 + n ≤ n
    omega
  · rw [nI_clamp (by omega)]
    show 0 + n ≤ n
    omega
  · rw [nI_clamp (by omega)]
    exact h
theorem pg_far {k k1 : Nat} (hk : isPage k) (hk1 : isPage k1) (hne : k ≠ k1) : k + 5 < k1 ∨ k1 + 5 < k := by
  rcases hk with rfl | rfl | rfl | rfl <;> rcases hk1 with rfl | rfl | rfl | rfl <;> omega
theorem q_takeAll {f : zF} {K : zF → Prop} {k k1 : Nat} {A : aPg} (hk : isPage k) (hk1 : isPage k1) (hne : k ≠ k1) (ok : okPg A) (hP : CP f k1 A) (h : ∀ f', (∀ c, (c < k ∨ k + 5 < c) → f' c = f c) → CP f' k A → K f') : cv mX2_takeAll [.ref k, .ref k1] f K := by
  have far := pg_far hk hk1 hne
  have h8 := ok.2.1
  have h9 := ok.2.2.1
  refine w_X2_takeAll hk hk1 (fun z1 e1 => ?_)
  have e1 : z1 = f k1 2 := by rw [e1, zup_ne (by omega), zup_ne (by omega)]
  rw [e1, zup_ne (q := k1) (by omega)]
  refine q_cpAll (n := 8) (pg_lt1 hk1) (pg_sh1 hk1) (pg_lt1 hk) (pg_sh1 hk) (by omega) ?_
  refine q_cpAll (n := 8) (pg_lt2 hk1) (pg_sh2 hk1) (pg_lt2 hk) (pg_sh2 hk) (by omega) ?_
  refine q_cpAll (n := 8) (pg_lt3 hk1) (pg_sh3 hk1) (pg_lt3 hk) (pg_sh3 hk) (by omega) ?_
  refine q_cpAll (n := 9) (pg_lt4 hk1) (pg_sh4 hk1) (pg_lt4 hk) (pg_sh4 hk) (by omega) ?_
  refine q_cpAll (n := 9) (pg_lt5 hk1) (pg_sh5 hk1) (pg_lt5 hk) (pg_sh5 hk) (by omega) ?_
  refine h _ (fun c hc => ?_) ⟨?_, ?_, ?_, fun l hl => ⟨?_, ?_, ?_⟩, fun p hp => ⟨?_, ?_⟩⟩
  · rw [cpy_ne (by omega), cpy_ne (by omega), cpy_ne (by omega), cpy_ne (by omega), cpy_ne (by omega), zup_ne (by omega), zup_ne (by omega), zup_ne (by omega)]
  · rw [cpy_ne (by omega), cpy_ne (by omega), cpy_ne (by omega), cpy_ne (by omega), cpy_ne (by omega), up_sl (by omega), up_sl (by omega), up_at]
    exact hP.1
  · rw [cpy_ne (by omega), cpy_ne (by omega), cpy_ne (by omega), cpy_ne (by omega), cpy_ne (by omega), up_sl (by omega), up_at]
    exact hP.2.1
  · rw [cpy_ne (by omega), cpy_ne (by omega), cpy_ne (by omega), cpy_ne (by omega), cpy_ne (by omega), up_at]
    exact hP.2.2.1
  · rw [cpy_ne (by omega), cpy_ne (by omega), cpy_ne (by omega), cpy_ne (by omega), cpy_at (by omega), zup_ne (by omega), zup_ne (by omega), zup_ne (by omega)]
    exact (hP.2.2.2.1 l hl).1
  · rw [cpy_ne (by omega), cpy_ne (by omega), cpy_ne (by omega), cpy_at (by omega), cpy_ne (by omega), zup_ne (by omega), zup_ne (by omega), zup_ne (by omega)]
    exact (hP.2.2.2.1 l hl).2.1
  · rw [cpy_ne (by omega), cpy_ne (by omega), cpy_at (by omega), cpy_ne (by omega), cpy_ne (by omega), zup_ne (by omega), zup_ne (by omega), zup_ne (by omega)]
    exact (hP.2.2.2.1 l hl).2.2
  · rw [cpy_ne (by omega), cpy_at (by omega), cpy_ne (by omega), cpy_ne (by omega), cpy_ne (by omega), zup_ne (by omega), zup_ne (by omega), zup_ne (by omega)]
    exact (hP.2.2.2.2 p hp).1
  · rw [cpy_at (by omega), cpy_ne (by omega), cpy_ne (by omega), cpy_ne (by omega), cpy_ne (by omega), zup_ne (by omega), zup_ne (by omega), zup_ne (by omega)]
    exact (hP.2.2.2.2 p hp).2
theorem MP_cp {g g0 : Nat → Int32} {b b0 : Nat} {A : aPg} (ok : okPg A) (e : ∀ j, j < 37 → g (b + j) = g0 (b0 + j)) (h : MP g0 b0 A) : MP g b A := by
  have h8 := ok.2.1
  have h9 := ok.2.2.1
  obtain ⟨a1, a2, a3, a4, a5⟩ := h
  have e0 := e 0 (by omega)
  rw [Nat.add_zero, Nat.add_zero] at e0
  refine ⟨e0.trans a1, (e 1 (by omega)).trans a2, (e 2 (by omega)).trans a3, fun l hl => ?_, fun p hp => ?_⟩
  · exact ⟨(e _ (by omega)).trans (a4 l hl).1, (e _ (by omega)).trans (a4 l hl).2⟩
  · exact ⟨(e _ (by omega)).trans (a5 p hp).1, (e _ (by omega)).trans (a5 p hp).2⟩
theorem ix37 (k j : Nat) : 37 * nI k + nI j = nI (37 * k + j) := by rw [show (37 : Int32) = nI 37 from rfl, pk_mul, nI_add]
theorem m_image_loop {f : zF} {K : Int32 → zF → Prop} {k : Nat} (hk : k < 2) {X : zX} (hX : kR X (zRi K)) (h : ∀ f', (∀ c, c ≠ 61 → f' c = f c) → (∀ j, (j < 37 * k ∨ 37 * k + 37 ≤ j) → f' 61 j = f 61 j) → (∀ j, j < 37 → f' 61 (37 * k + j) = f 56 j) → K 1 (zup f' 60 k 1)) : Z X mX7_image 30 [(0, .ref 52), (1, .int (nI k)), (2, .int 0)] [] (zC f) := by
  have key : ∀ m n g, n + m = 37 → (∀ c, c ≠ 61 → g c = f c) → (∀ j, (j < 37 * k ∨ 37 * k + 37 ≤ j) → g 61 j = f 61 j) → (∀ j, j < n → g 61 (37 * k + j) = f 56 j) → Z X mX7_image 30 [(0, .ref 52), (1, .int (nI k)), (2, .int (nI n))] [] (zC g) := by
    intro m
    induction m with
    | zero =>
      intro n g hn h1 h2 h3
      have e : n = 37 := by omega
      subst e
      refine l_X7_image_30 hX ⟨fun _ => ⟨vp_in_nI hk (by omega), ?_⟩, fun q => absurd (Int32.le_refl _) q⟩
      rw [nI_clamp (by omega)]
      exact h g h1 h2 h3
    | succ m ih =>
      intro n g hn h1 h2 h3
      refine l_X7_image_30 hX ⟨fun q => absurd q (nI_ge (b := 37) (by omega) (by omega)), fun _ => ?_⟩
      rw [ix37, nI_clamp (by omega), nI_clamp (by omega), ← nI_succ]
      refine ⟨vp_in_nI (by omega) (by omega), vp_in_nI (by omega) (by omega), ih (n + 1) _ (by omega) (fun c hc => by rw [zup_ne hc]; exact h1 c hc) (fun j hj => by rw [up_sl (by omega)]; exact h2 j hj) (fun j hj => ?_)⟩
      by_cases e : j = n
      · subst e
        rw [up_at, h1 56 (by omega)]
      · rw [up_sl (by omega)]
        exact h3 j (by omega)
  exact key 37 0 f rfl (fun _ _ => rfl) (fun _ _ => rfl) (fun j hj => absurd hj (by omega))
theorem m_restore_loop {f : zF} {K : Int32 → zF → Prop} {k : Nat} (hk : k < 2) {X : zX} (hX : kR X (zRi K)) (h : ∀ f', (∀ c, c ≠ 56 → f' c = f c) → (∀ j, j < 37 → f' 56 j = f 61 (37 * k + j)) → K 1 (zup f' 52 8 0)) : Z X mX7_restore 32 [(0, .ref 52), (1, .int (nI k)), (2, .int 0)] [] (zC f) := by
  have key : ∀ m n g, n + m = 37 → (∀ c, c ≠ 56 → g c = f c) → (∀ j, j < n → g 56 j = f 61 (37 * k + j)) → Z X mX7_restore 32 [(0, .ref 52), (1, .int (nI k)), (2, .int (nI n))] [] (zC g) := by
    intro m
    induction m with
    | zero =>
      intro n g hn h1 h2
      have e : n = 37 := by omega
      subst e
      exact l_X7_restore_32 hX ⟨fun _ => h g h1 h2, fun q => absurd (Int32.le_refl _) q⟩
    | succ m ih =>
      intro n g hn h1 h2
      refine l_X7_restore_32 hX ⟨fun q => absurd q (nI_ge (b := 37) (by omega) (by omega)), fun _ => ?_⟩
      rw [ix37, nI_clamp (by omega), nI_clamp (by omega), ← nI_succ]
      refine ⟨vp_in_nI (by omega) (by omega), vp_in_nI (by omega) (by omega), ih (n + 1) _ (by omega) (fun c hc => by rw [zup_ne hc]; exact h1 c hc) (fun j hj => ?_)⟩
      by_cases e : j = n
      · subst e
        rw [up_at, h1 61 (by omega)]
      · rw [up_sl e]
        exact h2 j (by omega)
  exact key 37 0 f rfl (fun _ _ => rfl) (fun j hj => absurd hj (by omega))
theorem iRows_eq {f f' : zF} (h : ∀ c, (24 ≤ c ∧ c < 40) ∨ c = 53 ∨ c = 54 ∨ c = 55 → f' c = f c) (a : iRows f) : iRows f' := by
  intro i hi
  have a := a i hi
  unfold iRw at a ⊢
  rw [h 53 (by omega), h 54 (by omega), h 55 (by omega), h (24 + 2 * i) (by omega), h (24 + 2 * i + 1) (by omega)]
  exact a
theorem iTape_eq {f f' : zF} (h4 : f' 4 = f 4) (h5 : f' 5 = f 5) (h59 : f' 59 = f 59) (h10 : f' 52 10 = f 52 10) (a : iTape f) : iTape f' := by
  unfold iTape at a ⊢
  rw [h4, h5, h59, h10]
  exact a
theorem CP_eq {f f' : zF} {c : Nat} {A : aPg} (h : ∀ q, c ≤ q → q ≤ c + 5 → f' q = f q) (hP : CP f c A) : CP f' c A := by
  unfold CP
  rw [h c (by omega) (by omega), h (c + 1) (by omega) (by omega), h (c + 2) (by omega) (by omega), h (c + 3) (by omega) (by omega), h (c + 4) (by omega) (by omega), h (c + 5) (by omega) (by omega)]
  exact hP
theorem iImg_eq {f f' : zF} (h : ∀ c, (40 ≤ c ∧ c < 52) ∨ c = 60 ∨ c = 61 → f' c = f c) (a : iImg f) : iImg f' := by
  intro k hk
  obtain ⟨A, ok, hP, hm⟩ := a k hk
  refine ⟨A, ok, CP_eq (fun q h1 h2 => h q (by omega)) hP, ?_⟩
  rw [h 60 (by omega), h 61 (by omega)]
  exact hm
theorem iTr_eq {f f' : zF} (h22 : f' 22 = f 22) (h23 : f' 23 = f 23) (h62 : f' 62 = f 62) (h24 : f' 52 24 = f 52 24) (a : iTr f) : iTr f' := by
  unfold iTr at a ⊢
  rw [h22, h23, h62, h24]
  exact a
/-- the page and its acts are new -/
theorem Inv_page {f f' : zF} (hI : Inv f) (hp : iPg f') (h1 : ∀ c, (c < 12 ∨ 21 < c) → c ≠ 52 → c ≠ 56 → c ≠ 58 → f' c = f c) (h2 : ∀ j, j ≠ 0 → j ≠ 8 → j ≠ 19 → j ≠ 20 → f' 52 j = f 52 j) : Inv f' := by
  obtain ⟨a, b, c, d, e, g0, g⟩ := hI
  refine ⟨iRows_eq (fun c hc => h1 c (by omega) (by omega) (by omega) (by omega)) a, iTape_eq (h1 4 (by omega) (by omega) (by omega) (by omega)) (h1 5 (by omega) (by omega) (by omega) (by omega)) (h1 59 (by omega) (by omega) (by omega) (by omega)) (h2 10 (by omega) (by omega) (by omega) (by omega)) b, hp, iImg_eq (fun c hc => h1 c (by omega) (by omega) (by omega) (by omega)) d, iTr_eq (h1 22 (by omega) (by omega) (by omega) (by omega)) (h1 23 (by omega) (by omega) (by omega) (by omega)) (h1 62 (by omega) (by omega) (by omega) (by omega)) (h2 24 (by omega) (by omega) (by omega) (by omega)) e, ?_, ?_⟩
  · rw [h1 0 (by omega) (by omega) (by omega) (by omega), h2 1 (by omega) (by omega) (by omega) (by omega)]
    exact g0
  · rw [h1 3 (by omega) (by omega) (by omega) (by omega), h2 11 (by omega) (by omega) (by omega) (by omega)]
    exact g
theorem iPg_eq {f f' : zF} (h : ∀ c, (12 ≤ c ∧ c ≤ 21) ∨ c = 56 ∨ c = 58 → f' c = f c) (h8 : f' 52 8 = f 52 8) (a : iPg f) : iPg f' := by
  obtain ⟨H, na, lt, x1, x2, x3, x4, x5, x6, x7, x8, x9⟩ := a
  refine ⟨H, na, lt, x1, x2, x3, CP_eq (fun q h1 h2 => h q (by omega)) x4, ?_⟩
  rw [h 56 (by omega), h 18 (by omega), h 58 (by omega), h8]
  refine ⟨x5, x6, x7, x8, fun t ht => ⟨(x9 t ht).1, iAct_eq ?_ ?_ ?_ (x9 t ht).2⟩⟩ <;> rw [h _ (by omega)]
theorem q_imageOf {f : zF} {K : Option Nat → zF → Prop} {i : Nat} (hi : i < 2) (h : K (some (40 + 6 * i)) f) : cq mX6_imageOf [.ref 0, .int (nI i)] f K := by
  refine w_X6_imageOf ⟨fun c => absurd c (nI_pos (by omega)), fun _ => ⟨fun c => absurd c (nI_ge (b := 2) hi (by omega)), fun _ => ⟨vp_in_nI hi (by omega), ?_⟩⟩⟩
  rw [nI_clamp (by omega)]
  exact h
theorem q_imageOf_f {f : zF} {K : Option Nat → zF → Prop} {x : Int32} (hx : outI x 2) (h : K none f) : cq mX6_imageOf [.ref 0, .int x] f K :=
  w_X6_imageOf ⟨fun _ => h, fun c => ⟨fun _ => h, fun c2 => (hx.elim c c2).elim⟩⟩
theorem p_image : ∀ (a0 : Int32) (f : zF), Inv f → pr2 Inv mX6_image mX7_image [.int a0] f := by
  intro a0 f hI K hK
  obtain ⟨A, ok, hP, hM⟩ := Inv_pg hI
  have fin : ∀ r f', nz f f' → K r r f' := fun r f' h => hK r f' (Inv_nz hI h)
  have hM0 := MP_nz (z0 f) hM
  rcases inOut a0 (n := 2) (by omega) with h0 | ⟨i, hi, rfl⟩
  · exact w_X6_image (q_imageOf_f h0 ⟨fun _ => w_X7_image (fun X hX => m_in0_f h0 (by omega) rfl (y0' (fin _ _ (z0 f)))), fun k1 e1 => (nomatch e1)⟩)
  · refine w_X6_image (q_imageOf hi ⟨fun c => (nomatch c), fun k1 e1 => ?_⟩)
    obtain rfl := Option.some.inj e1
    refine ⟨imgs_is hi, ?_⟩
    rcases Nat.eq_zero_or_pos (pL A) with hL | hL
    · exact q_isThere_f hP hL (y0' (w_X7_image (fun X hX => m_in0_t hi (by omega) rfl (y1' (m_isThere_f hM0 hL (y0' (fin _ _ (z0 f))))))))
    · refine q_isThere_t hP ok hL (y1' (q_takeAll (imgs_is hi) pg12 (by omega) ok hP (fun f1 b1 b2 => ?_)))
      have e56 : (zup f1 52 0 0) 56 = f 56 := by rw [zup_ne (by omega), b1 56 (by omega)]
      have M1 : MP ((zup f1 52 0 0) 56) 0 A := by rw [e56]; exact hM
      refine w_X7_image (fun X hX => m_in0_t hi (by omega) rfl (y1' (m_isThere_t M1 ok hL (y1' (m_image_loop hi hX (fun f2 d1 d2 d3 => hK _ _ ?_))))))
      have e : ∀ c, c ≠ 60 → c ≠ 61 → c ≠ 52 → (c < 40 + 6 * i ∨ 40 + 6 * i + 5 < c) → (zup f2 60 i 1) c = f c := by
        intro c c1 c2 c3 c4
        rw [zup_ne c1, d1 c c2, zup_ne c3, b1 c c4]
      have e52 : ∀ j, j ≠ 0 → (zup f2 60 i 1) 52 j = f 52 j := by
        intro j hj
        rw [zup_ne (by omega), d1 52 (by omega), up_sl hj, b1 52 (by omega)]
      obtain ⟨a, b, c, d, e0, g0, g⟩ := hI
      refine ⟨iRows_eq (fun c hc => e c (by omega) (by omega) (by omega) (by omega)) a, iTape_eq (e 4 (by omega) (by omega) (by omega) (by omega)) (e 5 (by omega) (by omega) (by omega) (by omega)) (e 59 (by omega) (by omega) (by omega) (by omega)) (e52 10 (by omega)) b, iPg_eq (fun c hc => e c (by omega) (by omega) (by omega) (by omega)) (e52 8 (by omega)) c, ?_, iTr_eq (e 22 (by omega) (by omega) (by omega) (by omega)) (e 23 (by omega) (by omega) (by omega) (by omega)) (e 62 (by omega) (by omega) (by omega) (by omega)) (e52 24 (by omega)) e0, ?_, ?_⟩
      · intro k hk
        by_cases q : k = i
        · subst q
          refine ⟨A, ok, CP_eq (f := f1) (fun q h1 h2 => by rw [zup_ne (by omega), d1 q (by omega), zup_ne (by omega)]) b2, Or.inr ⟨?_, hL, ?_⟩⟩
          · rw [up_at]
            decide
          · rw [zup_ne (by omega)]
            refine MP_cp (b0 := 0) ok (fun j hj => ?_) M1
            rw [Nat.zero_add]
            exact d3 j hj
        · obtain ⟨B, okB, hPB, hm⟩ := d k hk
          refine ⟨B, okB, CP_eq (fun q h1 h2 => e q (by omega) (by omega) (by omega) (by omega)) hPB, ?_⟩
          rw [up_sl q, d1 60 (by omega), zup_ne (q := 60) (by omega), b1 60 (by omega)]
          rcases hm with hm | ⟨m1, m2, m3⟩
          · exact Or.inl hm
          · refine Or.inr ⟨m1, m2, MP_cp (b0 := 37 * k) okB (fun j hj => ?_) m3⟩
            rw [zup_ne (by omega), d2 _ (by omega), zup_ne (by omega), b1 61 (by omega)]
      · rw [e 0 (by omega) (by omega) (by omega) (by omega), e52 1 (by omega)]
        exact g0
      · rw [e 3 (by omega) (by omega) (by omega) (by omega), e52 11 (by omega)]
        exact g
/-- a page with no acts -/
theorem iPg_new {f : zF} {A : aPg} {lt : Nat} (ok : okPg A) (hP : CP f 12 A) (hM : MP (f 56) 0 A) (h4 : f 18 4 = nI 0) (h8 : f 52 8 = nI 0) (h3 : f 18 3 = nI lt) (hl : lt < 24) : iPg f :=
  ⟨fun _ => A, 0, lt, by omega, hl, fun _ _ => ok, hP, hM, h4, h8, h3, fun t ht => absurd ht (by omega)⟩
theorem p_restore : ∀ (a0 : Int32) (f : zF), Inv f → pr2 Inv mX6_restore mX7_restore [.int a0] f := by
  intro a0 f hI K hK
  have fin : ∀ r f', nz f f' → K r r f' := fun r f' h => hK r f' (Inv_nz hI h)
  rcases inOut a0 (n := 2) (by omega) with h0 | ⟨i, hi, rfl⟩
  · exact w_X6_restore (q_imageOf_f h0 ⟨fun _ => w_X7_restore (fun X hX => m_in0_f h0 (by omega) rfl (y0' (fin _ _ (z0 f)))), fun k1 e1 => (nomatch e1)⟩)
  · refine w_X6_restore (q_imageOf hi ⟨fun c => (nomatch c), fun k1 e1 => ?_⟩)
    obtain rfl := Option.some.inj e1
    refine ⟨imgs_is hi, ?_⟩
    obtain ⟨A, ok, hP, hm⟩ := hI.2.2.2.1 i hi
    have h8 := ok.2.1
    rcases hm with ⟨m1, m2⟩ | ⟨m1, m2, m3⟩
    · refine w_X2_isThere (imgs_is hi) ⟨fun _ => y0' ?_, fun c => absurd ?_ c⟩
      · refine w_X7_restore (fun X hX => m_in0_t hi (by omega) rfl (y1' ⟨vp_in_nI hi (by omega), fun c => absurd ?_ c, fun _ => fin _ _ (z0 f)⟩))
        rw [nI_clamp (by omega), zup_ne (by omega)]
        exact m1
      · rw [hP.2.1, m2]
        exact Int32.le_refl _
    · refine w_X2_isThere (imgs_is hi) ⟨fun c => absurd c ?_, fun _ => y1' ?_⟩
      · rw [hP.2.1]
        exact nI_nle m2 (by omega)
      · refine q_takeAll pg12 (imgs_is hi) (by omega) ok hP (fun f1 b1 b2 => w_X0_forgetAll ?_)
        have e60 : ∀ q, (zup (zup f1 18 4 0) 52 0 0) 60 q = f 60 q := fun q => by rw [zup_ne (by omega), zup_ne (by omega), b1 60 (by omega)]
        refine w_X7_restore (fun X hX => m_in0_t hi (by omega) rfl (y1' ⟨vp_in_nI hi (by omega), fun _ => ?_, fun c => absurd ?_ m1⟩))
        · refine m_restore_loop hi hX (fun f2 d1 d2 => hK _ _ ?_)
          obtain ⟨H, na, lt, x1, x2, x3, x4, x5, x6, x7, x8, x9⟩ := hI.2.2.1
          refine Inv_page hI (iPg_new (A := A) (lt := lt) ok ?_ ?_ ?_ ?_ ?_ x2) (fun c c1 c2 c3 c4 => ?_) (fun j j1 j2 j3 j4 => ?_)
          · exact CP_eq (f := f1) (fun q h1 h2 => by rw [zup_ne (by omega), d1 q (by omega), zup_ne (by omega), zup_ne (by omega)]) b2
          · rw [zup_ne (by omega)]
            refine MP_cp (b0 := 37 * i) ok (fun j hj => ?_) m3
            rw [Nat.zero_add, d2 j hj, zup_ne (by omega), zup_ne (by omega), b1 61 (by omega)]
          · rw [zup_ne (by omega), d1 18 (by omega), zup_ne (by omega), up_at]
            rfl
          · exact up_at
          · rw [zup_ne (by omega), d1 18 (by omega), zup_ne (by omega), up_sl (by omega), b1 18 (by omega)]
            exact x8
          · rw [zup_ne c2, d1 c c3, zup_ne c2, zup_ne (by omega), b1 c (by omega)]
          · rw [up_sl j2, d1 52 (by omega), up_sl j1, zup_ne (by omega), b1 52 (by omega)]
        · rw [nI_clamp (by omega), e60] at c
          exact c
