/-! ===== pairs: leastHarm, ask ===== -/
theorem m_hB {f : zF} {A : aPg} {i : Nat} (hi : i < 8) (hI : iRw f i) (ok : okPg A) (hR : okR f A i) {g : zF} (h : nz f g) : ∀ p, p < pP A → vR f i p < pL A ∧ g 55 (40 * i + p) = nI (vR f i p) := fun p hp => ⟨(hR.2.2 p hp).1, row55 hi hI ok hR hp (iq_nz (iq_refl f) h)⟩
theorem least_both {f : zF} (hI : Inv f) {A : aPg} (ok : okPg A) (hP : CP f 12 A) (hM : MP (f 56) 0 A) {c : Nat} (hc : c < 256) : ∀ k n (x2 x3 : Int32), n + k = 8 → (x2 = -1000000 ∧ x3 = 10 ∨ ∃ b, b < 8 ∧ okR f A b ∧ x2 = nI b ∧ x3 = nI (hmN A (vR f b))) →
    ∃ r : Int32, (∀ (X : zX) (K : Int32 → zF → Prop), kR X (zRi K) → K r f → Z X mX6_leastHarm 36 [(0, .ref 0), (1, .int (nI c)), (2, .int x2), (3, .int x3), (4, .int (nI n))] [] (zC f)) ∧ ∀ g, nz f g → ∀ (X : zX) (K : Int32 → zF → Prop), kR X (zRi K) → (∀ g', nz f g' → K r g') → Z X mX7_leastHarm 35 [(0, .ref 52), (1, .int (nI c)), (2, .int x2), (3, .int (nI n))] [] (zC g) := by
  have h9 := ok.2.2.1
  have h8 := ok.2.1
  intro k
  induction k with
  | zero =>
    intro n x2 x3 hn _
    have e : n = 8 := by omega
    subst e
    exact ⟨x2, fun X K hX h => l_X6_leastHarm_36 hX ⟨fun _ => h, fun q => absurd (Int32.le_refl _) q⟩, fun g hg X K hX h => l_X7_leastHarm_35 hX ⟨fun _ => h g hg, fun q => absurd (Int32.le_refl _) q⟩⟩
  | succ k ih =>
    intro n x2 x3 hn hs
    have hn8 : n < 8 := by omega
    have hR := hI.1 n hn8
    have bt := bit_I c hc n hn8
    have rgw : ∀ g, nz f g → iRw g n := fun g hg => iRw_iq hn8 (iq_nz (iq_refl f) hg) hR
    -- the next round with what is held
    have skip : ∀ (no : ¬ (c.testBit n = true ∧ okR f A n)), ∃ r : Int32, (∀ (X : zX) (K : Int32 → zF → Prop), kR X (zRi K) → K r f → Z X mX6_leastHarm 36 [(0, .ref 0), (1, .int (nI c)), (2, .int x2), (3, .int x3), (4, .int (nI n))] [] (zC f)) ∧ ∀ g, nz f g → ∀ (X : zX) (K : Int32 → zF → Prop), kR X (zRi K) → (∀ g', nz f g' → K r g') → Z X mX7_leastHarm 35 [(0, .ref 52), (1, .int (nI c)), (2, .int x2), (3, .int (nI n))] [] (zC g) := by
      intro no
      obtain ⟨r, c1, c2⟩ := ih (n + 1) x2 x3 (by omega) hs
      refine ⟨r, fun X K hX h => ?_, fun g hg X K hX h => ?_⟩
      · have nx := c1 X K hX h
        rw [nI_succ] at nx
        refine l_X6_leastHarm_36 hX ⟨fun q => absurd q (nI_ge (b := 8) hn8 (by omega)), fun _ => q_rowOf hn8 ⟨fun z => (nomatch z), fun k1 e1 => ?_⟩⟩
        obtain rfl := Option.some.inj e1
        refine ⟨rows_is hn8, q_hasBit hc hn8 ?_⟩
        by_cases b : c.testBit n = true
        · rw [if_pos b]
          exact y1 (q_can hP ok hn8 hR (fun z => absurd ⟨b, z⟩ no) (fun _ => y0 nx))
        · rw [if_neg b]
          exact y0 nx
      · have nx := c2 g hg X K hX h
        rw [nI_succ] at nx
        have hMg := MP_nz hg hM
        refine l_X7_leastHarm_35 hX ⟨fun q => absurd q (nI_ge (b := 8) hn8 (by omega)), fun _ => ?_⟩
        rw [bt]
        by_cases b : c.testBit n = true
        · rw [if_pos b]
          refine ⟨fun z => absurd rfl z, fun _ => ⟨vp_in_nI hn8 (by omega), ?_⟩⟩
          rw [nI_clamp (by omega), hg.1 53 (by omega), hg.1 54 (by omega)]
          refine ⟨fun _ => nx, fun q => ⟨vp_in_nI hn8 (by omega), ?_⟩⟩
          have q : f 53 n ≠ -1 := fun z => q ((ln_neg hR.2.1).mpr z)
          obtain ⟨-, m, hm, l2⟩ := hR.2.2.1 q
          rw [show g 56 2 = _ from hMg.2.2.1, l2]
          refine ⟨fun _ => nx, fun q2 => ?_⟩
          have q2 : pP A ≤ m := Nat.le_of_not_lt (fun z => q2 (nI_lt z (by omega)))
          have na : ¬ alR f A n := fun z => no ⟨b, q, ⟨m, hm, l2, q2⟩, z⟩
          exact m_hasL hMg ok hn8 (rgw g hg) (fun z => absurd ((alR_iq hn8 (iq_nz (iq_refl f) hg)).mp z) na) (fun _ z1 e1 => by
            rw [e1, if_pos rfl]
            exact y0 nx)
        · rw [if_neg b]
          exact ⟨fun _ => nx, fun z => absurd z (by decide)⟩
    by_cases yes : c.testBit n = true ∧ okR f A n
    · obtain ⟨b, hok⟩ := yes
      have hl := hmN_le ok (vR f n)
      -- what is held next
      have pick : ∀ (y2 y3 : Int32), (y2 = -1000000 ∧ y3 = 10 ∨ ∃ b, b < 8 ∧ okR f A b ∧ y2 = nI b ∧ y3 = nI (hmN A (vR f b))) → (∀ (X : zX) (K : Int32 → zF → Prop), kR X (zRi K) → Z X mX6_leastHarm 36 [(0, .ref 0), (1, .int (nI c)), (2, .int y2), (3, .int y3), (4, .int (nI n + 1))] [] (zC f) → (x3 ≤ nI (hmN A (vR f n)) → Z X mX6_leastHarm 36 [(0, .ref 0), (1, .int (nI c)), (2, .int x2), (3, .int x3), (4, .int (nI n + 1))] [] (zC f)) ∧ (¬ x3 ≤ nI (hmN A (vR f n)) → Z X mX6_leastHarm 36 [(0, .ref 0), (1, .int (nI c)), (2, .int (nI n)), (3, .int (nI (hmN A (vR f n)))), (4, .int (nI n + 1))] [] (zC f))) → (∀ g, nz f g → ∀ (X : zX) (K : Int32 → zF → Prop), kR X (zRi K) → (∀ g', nz f g' → Z X mX7_leastHarm 35 [(0, .ref 52), (1, .int (nI c)), (2, .int y2), (3, .int (nI n + 1))] [] (zC g')) → ((x2 = (-1000000) → Z X mX7_leastHarm 35 [(0, .ref 52), (1, .int (nI c)), (2, .int (nI n)), (3, .int (nI n + 1))] [] (zC g)) ∧ (¬ x2 = (-1000000) → ci mX7_harmOf [.ref 52, .int (nI n)] g (fun r105 f105 => ci mX7_harmOf [.ref 52, .int x2] f105 (fun r106 f106 => (∀ z107 : Int32, z107 = (if r106 ≤ r105 then x2 else (nI n)) → Z X mX7_leastHarm 35 [(0, .ref 52), (1, .int (nI c)), (2, .int z107), (3, .int (nI n + 1))] [] (zC f106))))))) →
          ∃ r : Int32, (∀ (X : zX) (K : Int32 → zF → Prop), kR X (zRi K) → K r f → Z X mX6_leastHarm 36 [(0, .ref 0), (1, .int (nI c)), (2, .int x2), (3, .int x3), (4, .int (nI n))] [] (zC f)) ∧ ∀ g, nz f g → ∀ (X : zX) (K : Int32 → zF → Prop), kR X (zRi K) → (∀ g', nz f g' → K r g') → Z X mX7_leastHarm 35 [(0, .ref 52), (1, .int (nI c)), (2, .int x2), (3, .int (nI n))] [] (zC g) := by
        intro y2 y3 hy w1 w2
        obtain ⟨r, c1, c2⟩ := ih (n + 1) y2 y3 (by omega) hy
        refine ⟨r, fun X K hX h => ?_, fun g hg X K hX h => ?_⟩
        · have nx := c1 X K hX h
          rw [nI_succ] at nx
          have t := w1 X K hX nx
          refine l_X6_leastHarm_36 hX ⟨fun q => absurd q (nI_ge (b := 8) hn8 (by omega)), fun _ => q_rowOf hn8 ⟨fun z => (nomatch z), fun k1 e1 => ?_⟩⟩
          obtain rfl := Option.some.inj e1
          refine ⟨rows_is hn8, q_hasBit hc hn8 ?_⟩
          rw [if_pos b]
          exact y1 (q_can hP ok hn8 hR (fun _ => y1 (q_harmOf hP ok hn8 hok.2.2 ⟨t.1, fun q => q_harmOf hP ok hn8 hok.2.2 (t.2 q)⟩)) (fun z => absurd hok z))
        · have nx := fun g' (hg' : nz f g') => c2 g' hg' X K hX h
          rw [nI_succ] at nx
          have hMg := MP_nz hg hM
          have t := w2 g hg X K hX nx
          refine l_X7_leastHarm_35 hX ⟨fun q => absurd q (nI_ge (b := 8) hn8 (by omega)), fun _ => ?_⟩
          rw [bt, if_pos b]
          refine ⟨fun z => absurd rfl z, fun _ => ⟨vp_in_nI hn8 (by omega), ?_⟩⟩
          rw [nI_clamp (by omega), hg.1 53 (by omega), hg.1 54 (by omega)]
          refine ⟨fun q => absurd ((ln_neg hR.2.1).mp q) hok.1, fun q => ⟨vp_in_nI hn8 (by omega), ?_⟩⟩
          obtain ⟨m, hm, l2, q2⟩ := hok.2.1
          rw [show g 56 2 = _ from hMg.2.2.1, l2]
          refine ⟨fun q3 => absurd q3 (nI_nlt (by omega) (by omega)), fun _ => ?_⟩
          exact m_hasL hMg ok hn8 (rgw g hg) (fun _ z1 e1 => by
            rw [e1, if_neg (by decide)]
            exact y1 t) (fun z => absurd ((alR_iq hn8 (iq_nz (iq_refl f) hg)).mpr hok.2.2) z)
      rcases hs with ⟨rfl, rfl⟩ | ⟨b2, hb2, hok2, rfl, rfl⟩
      · refine pick (nI n) (nI (hmN A (vR f n))) (Or.inr ⟨n, hn8, hok, rfl, rfl⟩) (fun X K hX t => ⟨fun q => absurd q (nI_ge (b := 10) (by omega) (by omega)), fun _ => t⟩) (fun g hg X K hX t => ⟨fun _ => t g hg, fun q => absurd rfl q⟩)
      · have hl2 := hmN_le ok (vR f b2)
        have mm : ∀ (y2 : Int32), (hmN A (vR f b2) ≤ hmN A (vR f n) → y2 = nI b2) → (hmN A (vR f n) < hmN A (vR f b2) → y2 = nI n) → ∀ g, nz f g → ∀ (X : zX) (K : Int32 → zF → Prop), kR X (zRi K) → (∀ g', nz f g' → Z X mX7_leastHarm 35 [(0, .ref 52), (1, .int (nI c)), (2, .int y2), (3, .int (nI n + 1))] [] (zC g')) → ((nI b2 = (-1000000) → Z X mX7_leastHarm 35 [(0, .ref 52), (1, .int (nI c)), (2, .int (nI n)), (3, .int (nI n + 1))] [] (zC g)) ∧ (¬ nI b2 = (-1000000) → ci mX7_harmOf [.ref 52, .int (nI n)] g (fun r105 f105 => ci mX7_harmOf [.ref 52, .int (nI b2)] f105 (fun r106 f106 => (∀ z107 : Int32, z107 = (if r106 ≤ r105 then nI b2 else (nI n)) → Z X mX7_leastHarm 35 [(0, .ref 52), (1, .int (nI c)), (2, .int z107), (3, .int (nI n + 1))] [] (zC f106)))))) := by
          intro y2 e1 e2 g hg X K hX t
          refine ⟨fun q => absurd q (m1_ne _ (by omega)), fun _ => m_harmOf (MP_nz hg hM) ok hn8 (m_hB hn8 hR ok hok hg) (fun g2 h2 => m_harmOf (MP_nz (nz_trans hg h2) hM) ok hb2 (m_hB hb2 (hI.1 b2 hb2) ok hok2 (nz_trans hg h2)) (fun g3 h3 z e => ?_))⟩
          have t := t g3 (nz_trans (nz_trans hg h2) h3)
          by_cases q : hmN A (vR f b2) ≤ hmN A (vR f n)
          · rw [if_pos (nI_le q (by omega))] at e
            rw [e1 q] at t
            rw [e]
            exact t
          · rw [if_neg (fun y => q ((nI_leI (by omega) (by omega)).mp y))] at e
            rw [e2 (by omega)] at t
            rw [e]
            exact t
        by_cases q : hmN A (vR f b2) ≤ hmN A (vR f n)
        · exact pick (nI b2) (nI (hmN A (vR f b2))) (Or.inr ⟨b2, hb2, hok2, rfl, rfl⟩) (fun X K hX t => ⟨fun _ => t, fun z => absurd (nI_le q (by omega)) z⟩) (mm _ (fun _ => rfl) (fun z => absurd z (by omega)))
        · exact pick (nI n) (nI (hmN A (vR f n))) (Or.inr ⟨n, hn8, hok, rfl, rfl⟩) (fun X K hX t => ⟨fun z => absurd ((nI_leI (by omega) (by omega)).mp z) q, fun _ => t⟩) (mm _ (fun z => absurd z q) (fun _ => rfl))
    · exact skip yes
theorem p_leastHarm : ∀ (a0 : Int32) (f : zF), Inv f → pr2 Inv mX6_leastHarm mX7_leastHarm [.int a0] f := by
  intro a0 f hI K hK
  obtain ⟨A, ok, hP, hM⟩ := Inv_pg hI
  have fin : ∀ r f', nz f f' → K r r f' := fun r f' h => hK r f' (Inv_nz hI h)
  have hM0 := MP_nz (z0 f) hM
  rcases Nat.eq_zero_or_pos (pL A) with hL | hL
  · exact w_X6_leastHarm (fun X hX => q_isThere_f hP hL (y0' (w_X7_leastHarm (fun X hX => m_isThere_f hM0 hL (y0' (fin _ _ (z0 f)))))))
  · refine w_X6_leastHarm (fun X hX => q_isThere_t hP ok hL (y1' ?_))
    rcases inOut a0 (n := 256) (by omega) with h1 | ⟨c, hc, rfl⟩
    · have e : ci mX7_leastHarm [.ref 52, .int a0] f (fun r2 f2 => K (-1000001) r2 f2) := w_X7_leastHarm (fun X hX => m_isThere_t hM0 ok hL (y1' (m_in0_f h1 (by omega) rfl (y0' (fin _ _ (z0 f))))))
      refine ⟨fun _ => e, fun c => ⟨fun c2 => ?_, fun _ => e⟩⟩
      exact (Int32.lt_irrefl (Int32.lt_of_lt_of_le (outI_512 (n := 255) (by omega) h1 c) c2)).elim
    · refine ⟨fun q => absurd q (nI_pos (by omega)), fun _ => ⟨fun _ => ?_, fun q => absurd (nI_le (a := c) (b := 255) (by omega) (by omega)) q⟩⟩
      obtain ⟨r, c1, c2⟩ := least_both hI ok hP hM hc 8 0 (-1000000) 10 rfl (Or.inl ⟨rfl, rfl⟩)
      exact c1 X _ hX (w_X7_leastHarm (fun X hX => m_isThere_t hM0 ok hL (y1' (m_in0_t hc (by omega) rfl (y1' (c2 _ (z0 f) X _ hX (fun g' h => fin _ _ h)))))))
