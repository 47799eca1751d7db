/-! ===== the reference reads letters, front, back ===== -/
section
variable {f0 f : zF} {K : zF → Prop} {β : Nat → Nat} {N q : Nat} {S : St} {e : Nat × Nat}
theorem m_let8 (hN : N ≤ 400) (hβ : ∀ j, j < N → β j < 256) (hT : tpM f0 β N) (h : mR f0 β N S q f) (h8 : pL S.2 = 8) (k : ∀ f', mX f0 β N (3, S.1.2.1) f' → K f') : cv mX7_readLetter [.ref 52] f K := by
  have e1 : f 57 1 = 8 := by rw [show f 57 1 = nI (pL S.2) from h.2.2.2.2.1.2.1, h8]; rfl
  refine w_X7_readLetter ⟨fun z => absurd e1 z, fun _ => m_badR (n := 3) (by omega) h (fun f1 h1 => m_mustX h1 (m_nameX hN hβ hT h1 (m_kindBy0 ⟨fun _ => m_numX h1 (m_endX h1 ⟨fun _ => k f1 h1, fun z => absurd z (mX_ne h1)⟩), fun z => absurd z (mX_ne h1)⟩)))⟩
theorem m_let (hN : N ≤ 400) (hβ : ∀ j, j < N → β j < 256) (hT : tpM f0 β N) (h : mR f0 β N S q f) (h8 : pL S.2 < 8) (hw : isW β S.1 1) (k : mO f0 β N q (rLet β N S) K) : cv mX7_readLetter [.ref 52] f K := by
  unfold rLet tW at k
  rw [if_pos hw] at k
  have k : mO f0 β N q (if kdW β (nxS β N S).1 = 0 then .inl (1, (nxS β N S).1.2.1) else rLet2 β N (kdW β (nxS β N S).1) (nxS β N (nxS β N S))) K := k
  have e1 : f 57 1 = nI (pL S.2) := h.2.2.2.2.1.2.1
  refine w_X7_readLetter ⟨fun _ => m_must1 hN hβ hT h (fun f1 h1 => m_nameR hN hβ hT h1 (m_kindBy h1.2.2.2.1 ⟨fun z => absurd h1.2.1 z, fun _ z8 e8 => ?_⟩)), fun z => absurd ((nI_lit (b := 8) (c := 8) (by omega) (by omega) rfl).mp (e1.symm.trans z)) (by omega)⟩
  have kl := kdW_le β (nxS β N S).1
  by_cases kz : kdW β (nxS β N S).1 = 0
  · rw [if_pos kz] at k
    rw [if_pos kz, if_pos rfl] at e8
    subst e8
    exact m_must0 h1 (fun f2 h2 => m_numX h2 (m_endX h2 ⟨fun _ => k f2 h2, fun z => absurd z (mX_ne h2)⟩))
  · rw [if_neg kz] at k
    rw [if_neg kz, if_neg (m1_ne _ (by omega))] at e8
    subst e8
    unfold rLet2 at k
    rw [if_neg kz]
    refine m_must1 hN hβ hT h1 (fun f2 h2 => m_numR (m := 511) hN hβ hT (by omega) h2 ?_)
    cases e2 : tN β N 511 (nxS β N (nxS β N S)) with
    | inl e => rw [e2] at k; exact fun f3 h3 x => m_endX h3 ⟨fun _ => k f3 h3, fun z => absurd z (mX_ne h3)⟩
    | inr S2 =>
      rw [e2] at k
      obtain ⟨S2, v⟩ := S2
      obtain ⟨hv, e3⟩ := tN_in e2
      have e3 : S2.2 = S.2 := e3
      have k : mO f0 β N q (if S2.1.1 = 3 then .inr (tkN β N S2.1.2.2, adL S2.2 (kdW β (nxS β N S).1) v) else .inl (1, S2.1.2.1)) K := k
      refine fun f3 h3 => m_endR hN hβ hT h3 ?_
      unfold tG
      by_cases t3 : S2.1.1 = 3
      · rw [if_pos t3] at k
        rw [if_pos t3]
        refine fun f4 h4 => ⟨fun z => absurd h4.2.1 z, fun _ => ?_⟩
        have h4 : mR f0 β N (tkN β N S2.1.2.2, S2.2) q f4 := h4
        obtain ⟨d1, d2, d3, d4, d5, d6⟩ := id h4.2.2.2.2.1
        obtain ⟨o1, o2, o3, o4, o5, o6, o7⟩ := id h4.2.2.2.2.2
        have l8 : pL S2.2 < 8 := by rw [e3]; exact h8
        rw [show f4 57 1 = nI (pL S2.2) from d2, ix_k, nI_clamp (by omega)]
        refine ⟨vp_in_nI (by omega) (by omega), fun z12 e12 => ?_⟩
        rw [up_sl (by omega), show f4 57 1 = nI (pL S2.2) from d2] at e12
        subst e12
        rw [ix_c, nI_clamp (by omega)]
        refine ⟨vp_in_nI (by omega) (by omega), fun z13 e13 => ?_⟩
        rw [up_sl (by omega), up_sl (by omega), show f4 57 1 = nI (pL S2.2) from d2, nI_1] at e13
        subst e13
        refine k _ ⟨frM_57 (frM_57 (frM_57 h4.1)), ?_, lxM_eq (fun j _ _ => by rw [zup_ne (by omega), zup_ne (by omega), zup_ne (by omega)]) h4.2.2.1, h4.2.2.2.1, ⟨?_, up_at, ?_, fun l hl => ?_, fun p hp => ?_, fun p hp => ?_⟩, ⟨o1, by show pL S2.2 + 1 ≤ 8; omega, o3, fun l hl => ?_, fun p hp => ?_, fun p hp => ?_, o7⟩⟩
        · rw [zup_ne (by omega), zup_ne (by omega), zup_ne (by omega)]
          exact h4.2.1
        · rw [up_sl (by omega), up_sl (by omega), up_sl (by omega)]
          exact d1
        · rw [up_sl (by omega), up_sl (by omega), up_sl (by omega)]
          exact d3
        · have hl : l < pL S2.2 + 1 := hl
          show _ = nI (upN (pK S2.2) (pL S2.2) (kdW β (nxS β N S).1) l) ∧ _ = nI (upN (pE S2.2) (pL S2.2) v l)
          unfold upN
          by_cases e : l = pL S2.2
          · rw [if_pos e, if_pos e, e]
            refine ⟨?_, ?_⟩
            · rw [up_sl (by omega), up_sl (by omega), up_at]
            · rw [up_sl (by omega), up_at]
          · rw [if_neg e, if_neg e]
            have o := d4 l (show l < pL S2.2 by omega)
            refine ⟨?_, ?_⟩
            · rw [up_sl (by omega), up_sl (by omega), up_sl (by omega)]
              exact o.1
            · rw [up_sl (by omega), up_sl (by omega), up_sl (by omega)]
              exact o.2
        · have p9 : pP S2.2 ≤ 9 := o3
          have hp : p < pP S2.2 := hp
          rw [up_sl (by omega), up_sl (by omega), up_sl (by omega)]
          exact d5 p hp
        · have p9 : pP S2.2 ≤ 9 := o3
          have q9 : q ≤ pP S2.2 := o7
          rw [up_sl (by omega), up_sl (by omega), up_sl (by omega)]
          exact d6 p hp
        · have hl : l < pL S2.2 + 1 := hl
          show 1 ≤ upN (pK S2.2) (pL S2.2) (kdW β (nxS β N S).1) l ∧ upN (pK S2.2) (pL S2.2) (kdW β (nxS β N S).1) l ≤ 5 ∧ upN (pE S2.2) (pL S2.2) v l < 512
          unfold upN
          by_cases e : l = pL S2.2
          · rw [if_pos e, if_pos e]
            exact ⟨by omega, kl, by omega⟩
          · rw [if_neg e, if_neg e]
            exact o4 l (show l < pL S2.2 by omega)
        · have := o5 p hp
          exact Nat.lt_succ_of_lt this
        · have := o6 p hp
          exact Nat.lt_succ_of_lt this
      · rw [if_neg t3] at k
        rw [if_neg t3]
        exact fun f4 h4 => ⟨fun _ => k f4 h4, fun z => absurd z (mX_ne h4)⟩
theorem m_froX {X : zX} (hX : kR X (zRv K)) (h : mX f0 β N e f) (k : K f) : Z X mX7_readFront 0 [(0, .ref 52)] [] (zC f) := l_X7_readFront_0 hX ⟨fun _ => k, fun z => absurd z (mX_ne h)⟩
theorem m_fro (hN : N ≤ 400) (hβ : ∀ j, j < N → β j < 256) (hT : tpM f0 β N) (h : mR f0 β N S 0 f) (h0 : pP S.2 = 0) (hL : 1 ≤ pL S.2) (k : mO f0 β N 0 (rFro β N 9 S) K) : cv mX7_readFront [.ref 52] f K := by
  refine w_X7_readFront (fun X hX => ?_)
  have key : ∀ m n S f, n + m = 9 → mR f0 β N S 0 f → pP S.2 = n → 1 ≤ pL S.2 → mO f0 β N 0 (rFro β N m S) K → Z X mX7_readFront 0 [(0, .ref 52)] [] (zC f) := by
    intro m
    induction m with
    | zero =>
      intro n S f hn h hp hL k
      unfold rFro at k
      have t5 := h.2.2.2.1.1
      have l8 : pL S.2 ≤ 8 := h.2.2.2.2.2.2.1
      have e1 : f 57 1 = nI (pL S.2) := h.2.2.2.2.1.2.1
      have e2 : f 57 2 = nI (pP S.2) := h.2.2.2.2.1.2.2.1
      have e6 : f 57 1 - 1 = nI (pL S.2 - 1) := by rw [e1, show (1 : Int32) = nI 1 from rfl, nI_subI hL]
      refine l_X7_readFront_0 hX ⟨fun z => absurd h.2.1 z, fun _ => ?_⟩
      rw [h.2.2.1.1]
      refine ⟨fun z => ?_, fun z => m_figures hN (frM_tp hT h.1) h.2.2.1 h.2.2.2.1 ?_⟩
      · rw [if_neg (fun y => z ((mT_3 t5).mpr y))] at k
        exact k f h
      · have t2 := (mT_3 t5).mp z
        rw [if_pos t2] at k ⊢
        have nl := nuL_lt h.2.2.2.1 t2
        by_cases y : nuL β S.1 < pL S.2
        · rw [if_pos y] at k
          refine m_in0_t y (by omega) (by rw [e1]; exact l_pred (by omega)) (y1 ⟨fun w => absurd ?_ w, fun _ => m_badR (n := 3) (by omega) h (fun f1 h1 => m_numX h1 ⟨fun _ => m_froX hX h1 (k f1 h1), fun w => absurd w (mX_ne h1)⟩)⟩)
          rw [e2, hp, show n = 9 by omega]
          rfl
        · rw [if_neg y] at k
          refine m_in0_f (n := pL S.2) (Or.inr (nI_le (by omega) (by omega))) (by omega) (by rw [e1]; exact l_pred (by omega)) (y0 ?_)
          rw [e6]
          refine m_numR hN hβ hT (by omega) h ?_
          unfold tN
          rw [if_pos t2, if_neg (by omega)]
          exact fun f1 h1 x => ⟨fun _ => m_froX hX h1 (k f1 h1), fun w => absurd w (mX_ne h1)⟩
    | succ m ih =>
      intro n S f hn h hp hL k
      unfold rFro at k
      have t5 := h.2.2.2.1.1
      have l8 : pL S.2 ≤ 8 := h.2.2.2.2.2.2.1
      have e1 : f 57 1 = nI (pL S.2) := h.2.2.2.2.1.2.1
      have e2 : f 57 2 = nI (pP S.2) := h.2.2.2.2.1.2.2.1
      have e6 : f 57 1 - 1 = nI (pL S.2 - 1) := by rw [e1, show (1 : Int32) = nI 1 from rfl, nI_subI hL]
      refine l_X7_readFront_0 hX ⟨fun z => absurd h.2.1 z, fun _ => ?_⟩
      rw [h.2.2.1.1]
      refine ⟨fun z => ?_, fun z => m_figures hN (frM_tp hT h.1) h.2.2.1 h.2.2.2.1 ?_⟩
      · rw [if_neg (fun y => z ((mT_3 t5).mpr y))] at k
        exact k f h
      · have t2 := (mT_3 t5).mp z
        rw [if_pos t2] at k ⊢
        have nl := nuL_lt h.2.2.2.1 t2
        -- the number, and what is done with it
        have num : ci mX7_number [.ref 52, .int 0, .int ((f 57 1) - 1)] f (fun r105 f105 => ((¬ (f105 52 17) = 0 → Z X mX7_readFront 0 [(0, .ref 52)] [] (zC f105)) ∧ ((f105 52 17) = 0 → (vp_in (19 + (f105 57 2)) 37 ∧ (∀ z106 : Int32, z106 = (((zup f105 57 (Int32.toNatClampNeg (19 + (f105 57 2))) r105) 57 2) + 1) → Z X mX7_readFront 0 [(0, .ref 52)] [] (zC (zup (zup f105 57 (Int32.toNatClampNeg (19 + (f105 57 2))) r105) 57 2 z106))))))) := by
          rw [e6]
          refine m_numR hN hβ hT (by omega) h ?_
          cases e9 : tN β N (pL S.2 - 1) S with
          | inl e => rw [e9] at k; exact fun f1 h1 x => ⟨fun _ => m_froX hX h1 (k f1 h1), fun w => absurd w (mX_ne h1)⟩
          | inr S2 =>
            rw [e9] at k
            obtain ⟨S2, v⟩ := S2
            obtain ⟨hv, e3⟩ := tN_in e9
            refine fun f1 h1 => ⟨fun w => absurd h1.2.1 w, fun _ => ?_⟩
            have h1 : mR f0 β N S2 0 f1 := h1
            obtain ⟨d1, d2, d3, d4, d5, d6⟩ := id h1.2.2.2.2.1
            obtain ⟨o1, o2, o3, o4, o5, o6, o7⟩ := id h1.2.2.2.2.2
            have p2 : pP S2.2 = n := by rw [e3]; exact hp
            have l2 : pL S2.2 = pL S.2 := by rw [e3]
            have x2 : f1 57 2 = nI n := by rw [show f1 57 2 = nI (pP S2.2) from d3, p2]
            rw [x2, show (19 : Int32) + nI n = nI (19 + n) from nI_add 19 n, nI_clamp (by omega)]
            refine ⟨vp_in_nI (by omega) (by omega), fun z1 q1 => ?_⟩
            rw [up_sl (by omega), x2, nI_1] at q1
            subst q1
            refine ih (n + 1) (S2.1, adP S2.2 v) _ (by omega) ⟨frM_57 (frM_57 h1.1), ?_, lxM_eq (fun j _ _ => by rw [zup_ne (by omega), zup_ne (by omega)]) h1.2.2.1, h1.2.2.2.1, ⟨?_, ?_, ?_, fun l hl => ?_, fun p hp => ?_, fun p hp => absurd hp (by omega)⟩, ⟨o1, o2, by show pP S2.2 + 1 ≤ 9; omega, o4, fun p hp => ?_, fun p hp => absurd hp (by omega), by omega⟩⟩ (by show pP S2.2 + 1 = n + 1; omega) (by show 1 ≤ pL S2.2; omega) k
            · rw [zup_ne (by omega), zup_ne (by omega)]
              exact h1.2.1
            · rw [up_sl (by omega), up_sl (by omega)]
              exact d1
            · rw [up_sl (by omega), up_sl (by omega)]
              exact d2
            · rw [up_at, ← p2]
              rfl
            · have hl : l < pL S2.2 := hl
              rw [up_sl (by omega), up_sl (by omega), up_sl (by omega), up_sl (by omega)]
              exact d4 l hl
            · have hp : p < pP S2.2 + 1 := hp
              show _ = nI (upN (pF S2.2) (pP S2.2) v p)
              unfold upN
              rw [up_sl (by omega)]
              by_cases e : p = n
              · rw [if_pos (by omega), e, up_at]
              · rw [if_neg (by omega), up_sl (by omega)]
                exact d5 p (show p < pP S2.2 by omega)
            · have hp : p < pP S2.2 + 1 := hp
              show upN (pF S2.2) (pP S2.2) v p < pL S2.2
              unfold upN
              by_cases e : p = n
              · rw [if_pos (by omega)]
                omega
              · rw [if_neg (by omega)]
                exact o5 p (show p < pP S2.2 by omega)
        by_cases y : nuL β S.1 < pL S.2
        · refine m_in0_t y (by omega) (by rw [e1]; exact l_pred (by omega)) (y1 ⟨fun _ => num, fun w => absurd ?_ (show ¬ n = 9 by omega)⟩)
          rw [e2, hp] at w
          exact (nI_lit (b := 9) (c := 9) (by omega) (by omega) rfl).mp w
        · exact m_in0_f (n := pL S.2) (Or.inr (nI_le (by omega) (by omega))) (by omega) (by rw [e1]; exact l_pred (by omega)) (y0 num)
  exact key 9 0 S f rfl h h0 hL k
theorem m_bckX {X : zX} (hX : kR X (zRv K)) (h : mX f0 β N e f) (k : K f) {x : Int32} : Z X mX7_readSheet 50 [(0, .ref 52), (1, .int x)] [] (zC f) :=
  l_X7_readSheet_50 hX ⟨fun _ => m_endX h k, fun _ => ⟨fun _ => m_endX h k, fun z => absurd z (mX_ne h)⟩⟩
theorem m_bck (hN : N ≤ 400) (hβ : ∀ j, j < N → β j < 256) (hT : tpM f0 β N) {P : Nat} {X : zX} (hX : kR X (zRv K)) (h : mR f0 β N S 0 f) (h0 : pP S.2 = P) (hL : 1 ≤ pL S.2) (k : mO f0 β N P (bnd (rBck β N P 0 S) (tG β N 3)) K) : Z X mX7_readSheet 50 [(0, .ref 52), (1, .int 0)] [] (zC f) := by
  have key : ∀ m n S f, n + m = P → mR f0 β N S n f → pP S.2 = P → 1 ≤ pL S.2 → mO f0 β N P (bnd (rBck β N m n S) (tG β N 3)) K → Z X mX7_readSheet 50 [(0, .ref 52), (1, .int (nI n))] [] (zC f) := by
    intro m
    induction m with
    | zero =>
      intro n S f hn h hp hL k
      have e : n = P := by omega
      subst e
      have e2 : f 57 2 = nI (pP S.2) := h.2.2.2.2.1.2.2.1
      exact l_X7_readSheet_50 hX ⟨fun _ => m_endR hN hβ hT h k, fun z => absurd (by rw [e2, hp]; exact Int32.le_refl _) z⟩
    | succ m ih =>
      intro n S f hn h hp hL k
      unfold rBck at k
      have e1 : f 57 1 = nI (pL S.2) := h.2.2.2.2.1.2.1
      have e2 : f 57 2 = nI (pP S.2) := h.2.2.2.2.1.2.2.1
      have l8 : pL S.2 ≤ 8 := h.2.2.2.2.2.2.1
      have p9 : pP S.2 ≤ 9 := h.2.2.2.2.2.2.2.1
      have e6 : f 57 1 - 1 = nI (pL S.2 - 1) := by rw [e1, show (1 : Int32) = nI 1 from rfl, nI_subI hL]
      refine l_X7_readSheet_50 hX ⟨fun z => absurd z (by rw [e2, hp]; exact nI_ge (by omega) (by omega)), fun _ => ⟨fun z => absurd h.2.1 z, fun _ => ?_⟩⟩
      rw [e6]
      refine m_numR hN hβ hT (by omega) h ?_
      have x28 : (28 : Int32) + nI n = nI (28 + n) := nI_add 28 n
      cases e9 : tN β N (pL S.2 - 1) S with
      | inl e =>
        rw [e9] at k
        refine fun f1 h1 x z1 q1 => ?_
        rw [x28, nI_clamp (by omega)]
        exact ⟨vp_in_nI (by omega) (by omega), m_bckX hX (mX_57 h1) (k _ (mX_57 h1))⟩
      | inr S2 =>
        rw [e9] at k
        obtain ⟨S2, v⟩ := S2
        obtain ⟨hv, e3⟩ := tN_in e9
        refine fun f1 h1 z1 q1 => ?_
        have h1 : mR f0 β N S2 n f1 := h1
        obtain ⟨d1, d2, d3, d4, d5, d6⟩ := id h1.2.2.2.2.1
        obtain ⟨o1, o2, o3, o4, o5, o6, o7⟩ := id h1.2.2.2.2.2
        have p2 : pP S2.2 = P := by rw [e3]; exact hp
        have l2 : pL S2.2 = pL S.2 := by rw [e3]
        rw [if_pos h1.2.1] at q1
        subst q1
        rw [x28, nI_clamp (by omega), ← nI_succ]
        refine ⟨vp_in_nI (by omega) (by omega), ih (n + 1) (S2.1, puB S2.2 n v) _ (by omega) ⟨frM_57 h1.1, ?_, lxM_eq (fun j _ _ => by rw [zup_ne (by omega)]) h1.2.2.1, h1.2.2.2.1, ⟨?_, ?_, ?_, fun l hl => ?_, fun p hp => ?_, fun p hp => ?_⟩, ⟨o1, o2, o3, o4, o5, fun p hp => ?_, by show n + 1 ≤ pP S2.2; omega⟩⟩ p2 (by show 1 ≤ pL S2.2; omega) k⟩
        · rw [zup_ne (by omega)]
          exact h1.2.1
        · rw [up_sl (by omega)]
          exact d1
        · rw [up_sl (by omega)]
          exact d2
        · rw [up_sl (by omega)]
          exact d3
        · have hl : l < pL S2.2 := hl
          rw [up_sl (by omega), up_sl (by omega)]
          exact d4 l hl
        · have hp : p < pP S2.2 := hp
          rw [up_sl (by omega)]
          exact d5 p hp
        · show zup f1 57 (28 + n) (nI v) 57 (28 + p) = nI (upN (pB S2.2) n v p)
          unfold upN
          by_cases e : p = n
          · rw [if_pos e, e, up_at]
          · rw [if_neg e, up_sl (by omega)]
            exact d6 p (by omega)
        · show upN (pB S2.2) n v p < pL S2.2
          unfold upN
          by_cases e : p = n
          · rw [if_pos e]
            omega
          · rw [if_neg e]
            exact o6 p (by omega)
  exact key P 0 S f (by omega) h h0 hL k
end
