/-! ===== the class reads: letters, front, back ===== -/
theorem tW_2 {β : Nat → Nat} {N w : Nat} {S S' : St} (e : tW β N w S = .inr S') : S'.2 = S.2 := by
  unfold tW at e
  split at e
  · rw [← Sum.inr.inj e]; rfl
  · cases e
theorem tG_2 {β : Nat → Nat} {N w : Nat} {S S' : St} (e : tG β N w S = .inr S') : S'.2 = S.2 := by
  unfold tG at e
  split at e
  · rw [← Sum.inr.inj e]; rfl
  · cases e
theorem rLet_L {β : Nat → Nat} {N : Nat} {S S' : St} (e : rLet β N S = .inr S') : pL S'.2 = pL S.2 + 1 ∧ pP S'.2 = pP S.2 := by
  unfold rLet at e
  cases e1 : tW β N 1 S with
  | inl x => rw [e1] at e; cases e
  | inr S1 =>
    rw [e1] at e
    have e : (if kdW β S1.1 = 0 then (.inl (1, S1.1.2.1) : Rs St) else rLet2 β N (kdW β S1.1) (nxS β N S1)) = .inr S' := e
    split at e
    · cases e
    · unfold rLet2 at e
      cases e2 : tN β N 511 (nxS β N S1) with
      | inl x => rw [e2] at e; cases e
      | inr S2 =>
        rw [e2] at e
        obtain ⟨S2, v⟩ := S2
        have e3 := tG_2 e
        have e4 := (tN_in e2).2
        have e5 := tW_2 e1
        have e6 : S2.2 = S.2 := e4.trans e5
        rw [e3]
        show pL S2.2 + 1 = pL S.2 + 1 ∧ pP S2.2 = pP S.2
        rw [e6]
        exact ⟨rfl, rfl⟩
theorem rLts_L {β : Nat → Nat} {N : Nat} : ∀ k S S', rLts β N k S = .inr S' → pL S.2 ≤ pL S'.2 ∧ pP S'.2 = pP S.2
  | 0, S, S', e => by
    unfold rLts at e
    split at e
    · cases e
    · rw [← Sum.inr.inj e]
      exact ⟨Nat.le_refl _, rfl⟩
  | k + 1, S, S', e => by
    unfold rLts at e
    split at e
    · cases e1 : rLet β N S with
      | inl x => rw [e1] at e; cases e
      | inr S1 =>
        rw [e1] at e
        have a := rLts_L k S1 S' e
        have b := rLet_L e1
        exact ⟨by omega, by omega⟩
    · rw [← Sum.inr.inj e]
      exact ⟨Nat.le_refl _, rfl⟩
theorem rLts_1 {β : Nat → Nat} {N : Nat} {S S' : St} (e : rLts β N 8 S = .inr S') : 1 ≤ pL S'.2 := by
  unfold rLts at e
  rw [if_pos (Or.inl rfl)] at e
  cases e1 : rLet β N S with
  | inl x => rw [e1] at e; cases e
  | inr S1 =>
    rw [e1] at e
    have a := rLts_L 7 S1 S' e
    have b := rLet_L e1
    omega
theorem kdW_le (β : Nat → Nat) (L : Lx) : kdW β L ≤ 5 := by
  unfold kdW
  repeat' split
  all_goals omega
theorem pg6 : isPage 6 := Or.inl rfl
section
variable {f0 f : zF} {K : Int32 → zF → Prop} {β : Nat → Nat} {N q : Nat} {S : St}
theorem c_throughFor {k c : Nat} (hk : k ≤ 5) (hc : c < 512) (h : K (nI (thrN k c)) f) : ci mX2_throughFor [.int (nI k), .int (nI c)] f K := by
  unfold thrN at h
  refine w_X2_throughFor ⟨fun z => ?_, fun z => ?_, fun z => ?_, fun z3 z4 z5 => ?_⟩
  · rw [if_pos ((nI_lit (b := 3) (c := 3) (by omega) (by omega) rfl).mp z)] at h
    refine q_turned hc ?_
    rw [mask_449 _ (turnN_lt _ hc)]
    exact h
  · have z := (nI_lit (b := 4) (c := 4) (by omega) (by omega) rfl).mp z
    rw [if_neg (by omega), if_pos z] at h
    exact h
  · have z := (nI_lit (b := 5) (c := 5) (by omega) (by omega) rfl).mp z
    rw [if_neg (by omega), if_neg (by omega), if_pos z] at h
    exact h
  · rw [if_neg (fun y => z3 (by rw [y]; rfl)), if_neg (fun y => z4 (by rw [y]; rfl)), if_neg (fun y => z5 (by rw [y]; rfl))] at h
    exact q_turned hc h
theorem c_addL {K : zF → Prop} {k v : Nat} (h : cR f0 β N S q f) (hL : pL S.2 < 8) (hk : 1 ≤ k ∧ k ≤ 5) (hv : v < 512) (hk2 : ∀ f', cR f0 β N (S.1, adL S.2 k v) q f' → K f') : cv mX2_addLetter [.ref 6, .int (nI k), .int (nI v)] f K := by
  obtain ⟨b1, b2, b3, b4, b5, b6⟩ := id h.2.2.2.2.2.1
  obtain ⟨o1, o2, o3, o4, o5, o6, o7⟩ := id h.2.2.2.2.2.2
  refine w_X2_addLetter pg6 ?_
  rw [b2]
  refine q_put (n := 8) (by decide) rfl (by decide) hL ?_
  rw [zup_ne (by omega), b2]
  refine q_put (n := 8) (by decide) rfl (by decide) hL (c_throughFor hk.2 hv ?_)
  rw [zup_ne (by omega), zup_ne (by omega), b2]
  refine q_put (n := 8) (by decide) rfl (by decide) hL ?_
  rw [zup_ne (by omega), zup_ne (by omega), zup_ne (by omega), b2, nI_1]
  refine hk2 _ (cR_d h rfl (fun c hc => ?_) ⟨?_, ?_, ?_, fun l hl => ?_, fun p hp => ?_, fun p hp => ?_⟩ ⟨o1, by show pL S.2 + 1 ≤ 8; omega, o3, fun l hl => ?_, fun p hp => ?_, fun p hp => ?_, o7⟩)
  · rw [zup_ne (by omega), zup_ne (by omega), zup_ne (by omega), zup_ne (by omega)]
  · rw [up_sl (by omega), zup_ne (by omega), zup_ne (by omega), zup_ne (by omega)]
    exact b1
  · exact up_at
  · rw [up_sl (by omega), zup_ne (by omega), zup_ne (by omega), zup_ne (by omega)]
    exact b3
  · have hl : l < pL S.2 + 1 := hl
    show _ = nI (upN (pE S.2) (pL S.2) v l) ∧ _ = nI (upN (pK S.2) (pL S.2) k l) ∧ _ = nI (thrN (upN (pK S.2) (pL S.2) k l) (upN (pE S.2) (pL S.2) v l))
    unfold upN
    by_cases e : l = pL S.2
    · rw [if_pos e, if_pos e, e]
      refine ⟨?_, ?_, ?_⟩
      · rw [zup_ne (by omega), zup_ne (by omega), up_at]
      · rw [zup_ne (by omega), zup_ne (by omega), zup_ne (by omega), up_at]
      · rw [zup_ne (by omega), up_at]
    · have o := b4 l (by omega)
      rw [if_neg e, if_neg e]
      refine ⟨?_, ?_, ?_⟩
      · rw [zup_ne (by omega), zup_ne (by omega), up_sl e, zup_ne (by omega)]
        exact o.1
      · rw [zup_ne (by omega), zup_ne (by omega), zup_ne (by omega), up_sl e]
        exact o.2.1
      · rw [zup_ne (by omega), up_sl e, zup_ne (by omega), zup_ne (by omega)]
        exact o.2.2
  · rw [zup_ne (by omega), zup_ne (by omega), zup_ne (by omega), zup_ne (by omega)]
    exact b5 p hp
  · rw [zup_ne (by omega), zup_ne (by omega), zup_ne (by omega), zup_ne (by omega)]
    exact b6 p hp
  · have hl : l < pL S.2 + 1 := hl
    show 1 ≤ upN (pK S.2) (pL S.2) k l ∧ upN (pK S.2) (pL S.2) k l ≤ 5 ∧ upN (pE S.2) (pL S.2) v l < 512
    unfold upN
    by_cases e : l = pL S.2
    · rw [if_pos e, if_pos e]
      exact ⟨hk.1, hk.2, hv⟩
    · rw [if_neg e, if_neg e]
      exact o4 l (by omega)
  · have := o5 p hp
    show pF S.2 p < pL S.2 + 1
    omega
  · have := o6 p hp
    show pB S.2 p < pL S.2 + 1
    omega
theorem c_let (hN : N ≤ 400) (hβ : ∀ j, j < N → β j < 256) (hB : ∀ j, j < N → f0 5 j = nI (β j)) (h : cR f0 β N S q f) (hL : pL S.2 < 8) (k : cO f0 β N q (rLet β N S) K) : ci mX3_readsLetter [.ref 3] f K := by
  unfold rLet at k
  refine w_X3_readsLetter (c_word (w := 1) hN hβ hB (by omega) h ?_)
  cases e1 : tW β N 1 S with
  | inl e => rw [e1] at k; exact fun f hf => y0' (k f hf)
  | inr S1 =>
    rw [e1] at k
    have e1' := tW_2 e1
    refine fun f1 h1 => y1' (c_sort hN hβ hB h1 ?_)
    have k : cO f0 β N q (if kdW β S1.1 = 0 then .inl (1, S1.1.2.1) else rLet2 β N (kdW β S1.1) (nxS β N S1)) K := k
    have kl := kdW_le β S1.1
    refine ⟨fun z => ?_, fun z => ?_⟩
    · have z : kdW β S1.1 ≠ 0 := fun y => z (by rw [y]; rfl)
      rw [if_neg z] at k
      unfold rLet2 at k
      refine c_adv hN hβ hB h1 (fun f2 h2 _ => c_num (m := 511) hN hβ hB (by omega) h2 ?_)
      cases e2 : tN β N 511 (nxS β N S1) with
      | inl e => rw [e2] at k; exact fun f hf => y0' (k f hf)
      | inr S2 =>
        rw [e2] at k
        obtain ⟨S2, v⟩ := S2
        obtain ⟨hv, e3⟩ := tN_in e2
        have e4 : S2.2 = S.2 := e3.trans e1'
        refine fun f3 h3 h4 => y1' ?_
        rw [h4]
        exact c_addL h3 (by show pL S2.2 < 8; rw [e4]; exact hL) ⟨by omega, kl⟩ (by omega) (fun f4 h5 => c_sign (t := 3) hN hβ hB (by omega) h5 (cO_nb k))
    · have z : kdW β S1.1 = 0 := (nI_lit (b := 0) (c := 0) (by omega) (by omega) rfl).mp z
      rw [if_pos z] at k
      exact c_fails (n := 1) h1 (fun f' b => ⟨nb0, k f' b⟩)
theorem c_lts (hN : N ≤ 400) (hβ : ∀ j, j < N → β j < 256) (hB : ∀ j, j < N → f0 5 j = nI (β j)) (h : cR f0 β N S q f) (h0 : pL S.2 = 0) (k : cO f0 β N q (rLts β N 8 S) K) : ci mX3_readsLetters [.ref 3] f K := by
  refine w_X3_readsLetters (fun X hX => ?_)
  -- the end of the loop
  have stop : ∀ (S : St) (f : zF), cR f0 β N S q f → cO f0 β N q (if isW β S.1 1 then .inl (3, S.1.2.1) else .inr S) K → ci mX5_isWord [.ref 4, .ref (1000 + 1)] f (fun r101 f101 => ((r101 = 0 → K 1 f101) ∧ (¬ r101 = 0 → ci mX3_fails [.ref 3, .int 3] f101 (fun r102 f102 => ((r102 = 0 → K 0 f102) ∧ (¬ r102 = 0 → K 1 f102)))))) := by
    intro S f h k
    refine q_isWord hN hβ (cR_tp hB h) h.2.2.2.1 h.2.2.2.2.1 (by omega) (fun z => y1 ?_) (fun z => y0 ?_)
    · rw [if_pos z] at k
      exact c_fails (n := 3) h (fun f' b => y0 (k f' b))
    · rw [if_neg z] at k
      exact k f h
  have key : ∀ m n S f, n + m = 8 → cR f0 β N S q f → pL S.2 = n → cO f0 β N q (rLts β N m S) K → Z X mX3_readsLetters 2 [(0, .ref 3), (1, .int (nI n))] [] (zC f) := by
    intro m
    induction m with
    | zero =>
      intro n S f hn h hl k
      have e : n = 8 := by omega
      subst e
      exact l_X3_readsLetters_2 hX ⟨fun _ => stop S f h k, fun z => absurd (Int32.le_refl _) z⟩
    | succ m ih =>
      intro n S f hn h hl k
      unfold rLts at k
      have one : (m = 7 ∨ isW β S.1 1) → ci mX3_readsLetter [.ref 3] f (fun r103 f103 => ((¬ r103 = 0 → Z X mX3_readsLetters 2 [(0, .ref 3), (1, .int (nI n + 1))] [] (zC f103)) ∧ (r103 = 0 → K 0 f103))) := by
        intro z
        rw [if_pos z] at k
        refine c_let hN hβ hB h (by omega) ?_
        cases e1 : rLet β N S with
        | inl e => rw [e1] at k; exact fun f hf => y0' (k f hf)
        | inr S1 =>
          rw [e1] at k
          have hl1 := rLet_L e1
          refine fun f1 h1 => y1' ?_
          rw [← nI_succ]
          exact ih (n + 1) S1 f1 (by omega) h1 (by omega) k
      refine l_X3_readsLetters_2 hX ⟨fun z => absurd z (nI_ge (b := 8) (by omega) (by omega)), fun _ => ⟨fun z => one (Or.inl ?_), fun z => ?_⟩⟩
      · have := (nI_lit (b := 0) (c := 0) (by omega) (by omega) rfl).mp z
        omega
      · have n0 : ¬ m = 7 := fun y => z (by
          have : n = 0 := by omega
          rw [this]; rfl)
        refine q_isWord hN hβ (cR_tp hB h) h.2.2.2.1 h.2.2.2.2.1 (by omega) (fun w => y1 (one (Or.inr w))) (fun w => y0 ?_)
        rw [if_neg (fun y => y.elim n0 w)] at k
        refine stop S f h ?_
        rw [if_neg w]
        exact k
  exact key 8 0 S f rfl h h0 k
theorem c_fro (hN : N ≤ 400) (hβ : ∀ j, j < N → β j < 256) (hB : ∀ j, j < N → f0 5 j = nI (β j)) (h : cR f0 β N S 0 f) (h0 : pP S.2 = 0) (hL : 1 ≤ pL S.2) (k : cO f0 β N 0 (rFro β N 9 S) K) : ci mX3_readsFront [.ref 3] f K := by
  refine w_X3_readsFront (fun X hX => ?_)
  have key : ∀ m n S f, n + m = 9 → cR f0 β N S 0 f → pP S.2 = n → 1 ≤ pL S.2 → cO f0 β N 0 (rFro β N m S) K → Z X mX3_readsFront 2 [(0, .ref 3), (1, .int (nI n))] [] (zC f) := by
    intro m
    induction m with
    | zero =>
      intro n S f hn h hp hL k
      have e : n = 9 := by omega
      subst e
      unfold rFro at k
      have t5 := h.2.2.2.2.1.1
      have l8 := h.2.2.2.2.2.2.2.1
      refine l_X3_readsFront_2 hX ⟨fun _ => ?_, fun z => absurd (Int32.le_refl _) z⟩
      rw [h.2.2.2.1.1]
      refine ⟨fun z => ?_, fun z => ?_⟩
      · have z : S.1.1 = 2 := (nI_lit (b := 2) (c := 2) (by omega) (by omega) rfl).mp z
        rw [if_pos z] at k
        have nl := nuL_lt h.2.2.2.2.1 z
        refine q_numberTold hN (cR_tp hB h) h.2.2.2.1 h.2.2.2.2.1 z (fun z1 e1 => ?_)
        have e1 : z1 = nI (if nuL β S.1 < pL S.2 then 3 else 2) := by
          rw [e1, h.2.2.2.2.2.1.2.1]
          by_cases y : nuL β S.1 < pL S.2
          · rw [if_pos y, if_neg (nI_ge y (by omega))]; rfl
          · rw [if_neg y, if_pos (nI_le (by omega) (by omega))]; rfl
        rw [e1]
        exact c_fails h (fun f' b => ⟨nb0, k f' b⟩)
      · rw [if_neg (fun y => z (by rw [y]; rfl))] at k
        exact k f h
    | succ m ih =>
      intro n S f hn h hp hL k
      unfold rFro at k
      have t5 := h.2.2.2.2.1.1
      have ok := h.2.2.2.2.2.2
      refine l_X3_readsFront_2 hX ⟨fun z => absurd z (nI_ge (b := 9) (by omega) (by omega)), fun _ => ?_⟩
      rw [h.2.2.2.1.1]
      refine ⟨fun z => ⟨fun y => absurd y z, fun _ => ?_⟩, fun z => ?_⟩
      · rw [if_neg (fun y => z (by rw [y]; rfl))] at k
        exact k f h
      · have z : S.1.1 = 2 := (nI_lit (b := 2) (c := 2) (by omega) (by omega) rfl).mp z
        rw [if_pos z] at k
        have l8 := ok.2.1
        have e6 : f 6 1 - 1 = nI (pL S.2 - 1) := by
          rw [h.2.2.2.2.2.1.2.1, show (1 : Int32) = nI 1 from rfl, nI_subI hL]
        rw [e6]
        refine c_num hN hβ hB (by omega) h ?_
        cases e2 : tN β N (pL S.2 - 1) S with
        | inl e => rw [e2] at k; exact fun f hf => y0' (k f hf)
        | inr S2 =>
          rw [e2] at k
          obtain ⟨S2, v⟩ := S2
          obtain ⟨hv, e3⟩ := tN_in e2
          refine fun f3 h3 h4 => y1' ?_
          obtain ⟨b1, b2, b3, b4, b5, b6⟩ := id h3.2.2.2.2.2.1
          obtain ⟨o1, o2, o3, o4, o5, o6, o7⟩ := id h3.2.2.2.2.2.2
          have p2 : pP S2.2 = n := by rw [e3]; exact hp
          have l2 : pL S2.2 = pL S.2 := by rw [e3]
          rw [h4]
          refine w_X2_addPlace pg6 ?_
          rw [b3, p2]
          refine q_put (n := 9) (by decide) rfl (by decide) (by omega) ?_
          rw [zup_ne (by omega), b3, p2, nI_1]
          refine ih (n + 1) (S2.1, adP S2.2 v) _ (by omega) (cR_d h3 rfl (fun c hc => ?_) ⟨?_, ?_, ?_, fun l hl => ?_, fun p hp => ?_, fun p hp => absurd hp (by omega)⟩ ⟨o1, o2, by show pP S2.2 + 1 ≤ 9; omega, o4, fun p hp => ?_, fun p hp => absurd hp (by omega), by omega⟩) (by show pP S2.2 + 1 = n + 1; omega) (by show 1 ≤ pL S2.2; omega) k
          · rw [zup_ne (by omega), zup_ne (by omega)]
          · rw [up_sl (by omega), zup_ne (by omega)]
            exact b1
          · rw [up_sl (by omega), zup_ne (by omega)]
            exact b2
          · rw [up_at, ← p2]
            rfl
          · rw [zup_ne (by omega), zup_ne (by omega), zup_ne (by omega), zup_ne (by omega), zup_ne (by omega), zup_ne (by omega)]
            exact b4 l hl
          · have hp : p < pP S2.2 + 1 := hp
            show _ = nI (upN (pF S2.2) (pP S2.2) v p)
            unfold upN
            rw [zup_ne (by omega)]
            by_cases e : p = n
            · rw [if_pos (by omega), e, up_at]
            · rw [if_neg (by omega), up_sl e]
              exact b5 p (show p < pP S2.2 by omega)
          · have hp : p < pP S2.2 + 1 := hp
            show upN (pF S2.2) (pP S2.2) v p < pL S2.2
            unfold upN
            by_cases e : p = n
            · rw [if_pos (by omega)]
              omega
            · rw [if_neg (by omega)]
              exact o5 p (show p < pP S2.2 by omega)
  exact key 9 0 S f rfl h h0 hL k
theorem c_bck (hN : N ≤ 400) (hβ : ∀ j, j < N → β j < 256) (hB : ∀ j, j < N → f0 5 j = nI (β j)) {P : Nat} (h : cR f0 β N S 0 f) (h0 : pP S.2 = P) (hL : 1 ≤ pL S.2) (k : cO f0 β N P (rBck β N P 0 S) K) : ci mX3_readsBack [.ref 3] f K := by
  refine w_X3_readsBack (fun X hX => ?_)
  have key : ∀ m n S f, n + m = P → cR f0 β N S n f → pP S.2 = P → 1 ≤ pL S.2 → cO f0 β N P (rBck β N m n S) K → Z X mX3_readsBack 2 [(0, .ref 3), (1, .int (nI n))] [] (zC f) := by
    intro m
    induction m with
    | zero =>
      intro n S f hn h hp hL k
      have e : n = P := by omega
      subst e
      exact l_X3_readsBack_2 hX ⟨fun _ => k f h, fun z => absurd (by rw [h.2.2.2.2.2.1.2.2.1, hp]; exact Int32.le_refl _) z⟩
    | succ m ih =>
      intro n S f hn h hp hL k
      unfold rBck at k
      have ok := h.2.2.2.2.2.2
      have p9 := ok.2.2.1
      have l8 := ok.2.1
      have e6 : f 6 1 - 1 = nI (pL S.2 - 1) := by
        rw [h.2.2.2.2.2.1.2.1, show (1 : Int32) = nI 1 from rfl, nI_subI hL]
      refine l_X3_readsBack_2 hX ⟨fun z => absurd z (by rw [h.2.2.2.2.2.1.2.2.1, hp]; exact nI_ge (by omega) (by omega)), fun _ => ?_⟩
      rw [e6]
      refine c_num hN hβ hB (by omega) h ?_
      cases e2 : tN β N (pL S.2 - 1) S with
      | inl e => rw [e2] at k; exact fun f hf => y0' (k f hf)
      | inr S2 =>
        rw [e2] at k
        obtain ⟨S2, v⟩ := S2
        obtain ⟨hv, e3⟩ := tN_in e2
        refine fun f3 h3 h4 => y1' ?_
        obtain ⟨b1, b2, b3, b4, b5, b6⟩ := id h3.2.2.2.2.2.1
        obtain ⟨o1, o2, o3, o4, o5, o6, o7⟩ := id h3.2.2.2.2.2.2
        have p2 : pP S2.2 = P := by rw [e3]; exact hp
        have l2 : pL S2.2 = pL S.2 := by rw [e3]
        rw [h4]
        refine w_X2_putLetter pg6 ⟨fun _ => q_put (n := 9) (by decide) rfl (by decide) (by omega) ?_, fun z => absurd z (by decide)⟩
        rw [← nI_succ]
        refine ih (n + 1) (S2.1, puB S2.2 n v) _ (by omega) (cR_d h3 rfl (fun c hc => ?_) ⟨?_, ?_, ?_, fun l hl => ?_, fun p hp => ?_, fun p hp => ?_⟩ ⟨o1, o2, o3, o4, o5, fun p hp => ?_, by show n + 1 ≤ pP S2.2; omega⟩) p2 (by show 1 ≤ pL S2.2; omega) k
        · rw [zup_ne (by omega)]
        · rw [zup_ne (by omega)]
          exact b1
        · rw [zup_ne (by omega)]
          exact b2
        · rw [zup_ne (by omega)]
          exact b3
        · rw [zup_ne (by omega), zup_ne (by omega), zup_ne (by omega)]
          exact b4 l hl
        · rw [zup_ne (by omega)]
          exact b5 p hp
        · show zup f3 (6 + 5) n (nI v) 11 p = nI (upN (pB S2.2) n v p)
          unfold upN
          by_cases e : p = n
          · rw [if_pos e, e, up_at]
          · rw [if_neg e, up_sl e]
            exact b6 p (by omega)
        · show upN (pB S2.2) n v p < pL S2.2
          unfold upN
          by_cases e : p = n
          · rw [if_pos e]
            omega
          · rw [if_neg e]
            exact o6 p (by omega)
  exact key P 0 S f (by omega) h h0 hL k
end
