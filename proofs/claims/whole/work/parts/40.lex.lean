/-! ===== the tape: tokens ===== -/
def soN (b : Nat) : Nat := if 97 ≤ b ∧ b ≤ 122 then 1 else if 48 ≤ b ∧ b ≤ 57 then 2 else if b = 10 ∨ b = 32 then 6 else if b = 47 then 4 else if b = 59 then 3 else 5
theorem soN_le (b : Nat) : 1 ≤ soN b ∧ soN b ≤ 6 := by
  unfold soN
  repeat' split
  all_goals omega
theorem q_sortOf {f : zF} {K : Int32 → zF → Prop} {b : Nat} (hb : b < 256) (h : K (nI (soN b)) f) : ci mX5_sortOf [.int (nI b)] f K := by
  have h' : ∀ c, soN b = c → K (nI c) f := fun c e => e ▸ h
  have l97 : nI b < 97 ↔ b < 97 := nI_ltI (b := 97) (by omega) (by omega)
  have l48 : nI b < 48 ↔ b < 48 := nI_ltI (b := 48) (by omega) (by omega)
  have g57 : (57 : Int32) < nI b ↔ 57 < b := nI_ltI (a := 57) (by omega) (by omega)
  have g122 : (122 : Int32) < nI b ↔ 122 < b := nI_ltI (a := 122) (by omega) (by omega)
  have e10 : nI b = 10 ↔ b = 10 := nI_eq (b := 10) (by omega) (by omega)
  have e32 : nI b = 32 ↔ b = 32 := nI_eq (b := 32) (by omega) (by omega)
  have e47 : nI b = 47 ↔ b = 47 := nI_eq (b := 47) (by omega) (by omega)
  have e59 : nI b = 59 ↔ b = 59 := nI_eq (b := 59) (by omega) (by omega)
  have sw : ¬ (97 ≤ b ∧ b ≤ 122) → ¬ (48 ≤ b ∧ b ≤ 57) → ((nI b = 10 → K 6 f) ∧ (nI b = 32 → K 6 f) ∧ (nI b = 47 → K 4 f) ∧ (nI b = 59 → K 3 f) ∧ (¬ nI b = 10 → ¬ nI b = 32 → ¬ nI b = 47 → ¬ nI b = 59 → K 5 f)) := by
    intro n1 n2
    rw [e10, e32, e47, e59]
    unfold soN at h'
    rw [if_neg n1, if_neg n2] at h'
    refine ⟨fun q => h' 6 (if_pos (Or.inl q)), fun q => h' 6 (if_pos (Or.inr q)), fun q => h' 4 ?_, fun q => h' 3 ?_, fun a1 a2 a3 a4 => h' 5 ?_⟩
    · rw [if_neg (by omega), if_pos q]
    · rw [if_neg (by omega), if_neg (by omega), if_pos q]
    · rw [if_neg (by omega), if_neg a3, if_neg a4]
  refine w_X5_sortOf ?_
  rw [l97, l48, g57, g122]
  refine ⟨fun q => ⟨fun q2 => sw (by omega) (by omega), fun q2 => ⟨fun q3 => sw (by omega) (by omega), fun q3 => h' 2 ?_⟩⟩, fun q => ⟨fun q1 => ⟨fun q2 => sw (by omega) (by omega), fun q2 => ⟨fun q3 => sw (by omega) (by omega), fun q3 => h' 2 ?_⟩⟩, fun q1 => h' 1 ?_⟩⟩
  · unfold soN
    rw [if_neg (by omega), if_pos (by omega)]
  · unfold soN
    rw [if_neg (by omega), if_pos (by omega)]
  · unfold soN
    rw [if_pos (by omega)]
theorem m_isLetter {f : zF} {K : Int32 → zF → Prop} {b : Nat} (hb : b < 256) (h : K (if soN b = 1 then 1 else 0) f) : ci mX7_isLetter [.int (nI b)] f K := by
  have l97 : nI b < 97 ↔ b < 97 := nI_ltI (b := 97) (by omega) (by omega)
  have g122 : (122 : Int32) < nI b ↔ 122 < b := nI_ltI (a := 122) (by omega) (by omega)
  have e1 : soN b = 1 ↔ 97 ≤ b ∧ b ≤ 122 := by
    unfold soN
    repeat' split
    all_goals omega
  refine w_X7_isLetter ?_
  rw [l97, g122]
  refine ⟨fun q => ?_, fun q => ⟨fun q1 => ?_, fun q1 => ?_⟩⟩
  · rw [if_neg (by omega)] at h
    exact h
  · rw [if_neg (by omega)] at h
    exact h
  · rw [if_pos (by omega)] at h
    exact h
theorem m_isFigure {f : zF} {K : Int32 → zF → Prop} {b : Nat} (hb : b < 256) (h : K (if soN b = 2 then 1 else 0) f) : ci mX7_isFigure [.int (nI b)] f K := by
  have l97 : nI b < 48 ↔ b < 48 := nI_ltI (b := 48) (by omega) (by omega)
  have g122 : (57 : Int32) < nI b ↔ 57 < b := nI_ltI (a := 57) (by omega) (by omega)
  have e1 : soN b = 2 ↔ 48 ≤ b ∧ b ≤ 57 := by
    unfold soN
    repeat' split
    all_goals omega
  refine w_X7_isFigure ?_
  rw [l97, g122]
  refine ⟨fun q => ?_, fun q => ⟨fun q1 => ?_, fun q1 => ?_⟩⟩
  · rw [if_neg (by omega)] at h
    exact h
  · rw [if_neg (by omega)] at h
    exact h
  · rw [if_pos (by omega)] at h
    exact h
def ruN (β : Nat → Nat) (c : Nat) : Nat → Nat → Nat
  | 0, i => i
  | k + 1, i => if soN (β i) = c then ruN β c k (i + 1) else i
theorem ruN_le (β : Nat → Nat) (c : Nat) : ∀ k i, i ≤ ruN β c k i ∧ ruN β c k i ≤ i + k
  | 0, i => ⟨Nat.le_refl _, Nat.le_refl _⟩
  | k + 1, i => by
    have := ruN_le β c k (i + 1)
    unfold ruN
    split <;> omega
theorem ruN_end (β : Nat → Nat) (c : Nat) : ∀ k i, ruN β c k i < i + k → soN (β (ruN β c k i)) ≠ c
  | 0, i, h => absurd h (by unfold ruN; omega)
  | k + 1, i, h => by
    unfold ruN at h ⊢
    by_cases q : soN (β i) = c
    · rw [if_pos q] at h ⊢
      exact ruN_end β c k (i + 1) (by omega)
    · rw [if_neg q]
      exact q
theorem ruN_in (β : Nat → Nat) (c : Nat) : ∀ k i j, i ≤ j → j < ruN β c k i → soN (β j) = c
  | 0, i, j, h1, h2 => absurd h2 (by unfold ruN; omega)
  | k + 1, i, j, h1, h2 => by
    unfold ruN at h2
    by_cases q : soN (β i) = c
    · rw [if_pos q] at h2
      by_cases e : j = i
      · rw [e]
        exact q
      · exact ruN_in β c k (i + 1) j (by omega) h2
    · rw [if_neg q] at h2
      omega
abbrev Lx : Type := Nat × Nat × Nat
/-- the token from place i on: its sort, its start, its end -/
def tkAt (β : Nat → Nat) (N s : Nat) : Lx :=
  if s < N then (if soN (β s) = 1 then (1, s, ruN β 1 (N - s) s) else if soN (β s) = 2 then (if 3 < ruN β 2 (N - s) s - s then 5 else 2, s, ruN β 2 (N - s) s) else (soN (β s), s, s + 1)) else (0, s, s)
def tkN (β : Nat → Nat) (N i : Nat) : Lx := tkAt β N (ruN β 6 (N - i) i)
def tpC (f : zF) (β : Nat → Nat) (N : Nat) : Prop := f 4 1 = nI N ∧ ∀ j, j < N → f 5 j = nI (β j)
def tpM (f : zF) (β : Nat → Nat) (N : Nat) : Prop := f 52 12 = nI N ∧ ∀ j, j < N → f 59 j = nI (β j)
def lxC (f : zF) (L : Lx) : Prop := f 4 2 = nI L.1 ∧ f 4 3 = nI L.2.1 ∧ f 4 4 = nI L.2.2
def mT (t : Nat) : Nat := if t = 0 then 1 else if t = 1 then 2 else if t = 2 then 3 else if t = 3 then 4 else if t = 4 then 5 else 0
def lxM (f : zF) (L : Lx) : Prop := f 52 14 = nI (mT L.1) ∧ f 52 15 = nI L.2.1 ∧ f 52 16 = nI L.2.2 ∧ f 52 13 = nI L.2.2
theorem q_byte {f : zF} {K : Int32 → zF → Prop} {β : Nat → Nat} {N i : Nat} (hN : N ≤ 400) (hT : tpC f β N) (hi : i < N) (h : K (nI (β i)) f) : ci mX6_itemOf [.ref 5, .int (nI i)] f K := by
  refine q_item (n := 400) (by decide) rfl (by decide) (by omega) ?_
  rw [hT.2 i hi]
  exact h
theorem m_byte {f : zF} {K : Int32 → zF → Prop} {β : Nat → Nat} {N i : Nat} (hN : N ≤ 400) (hT : tpM f β N) (hi : i < N) (h : K (nI (β i)) f) : ci mX7_byteAt [.ref 52, .int (nI i)] f K := by
  refine w_X7_byteAt ?_
  rw [hT.1]
  refine ⟨fun q => absurd q (nI_ge hi (by omega)), fun _ => ⟨vp_in_nI (by omega) (by omega), ?_⟩⟩
  rw [nI_clamp (by omega), hT.2 i hi]
  exact h
theorem m_byteE {f : zF} {K : Int32 → zF → Prop} {β : Nat → Nat} {N i : Nat} (hN : N ≤ 400) (hT : tpM f β N) (hi : N = i) (h : K (-1000000) f) : ci mX7_byteAt [.ref 52, .int (nI i)] f K := by
  subst hi
  refine w_X7_byteAt ?_
  rw [hT.1]
  exact ⟨fun _ => h, fun q => absurd (Int32.le_refl _) q⟩
/-- the class goes on to the next token -/
theorem q_adv {f : zF} {K : zF → Prop} {β : Nat → Nat} {N i : Nat} (hN : N ≤ 400) (hβ : ∀ j, j < N → β j < 256) (hT : tpC f β N) (hi : i ≤ N) (h4 : f 4 4 = nI i) (h : ∀ f', (∀ c, c ≠ 4 → f' c = f c) → (∀ j, j ≠ 2 → j ≠ 3 → j ≠ 4 → f' 4 j = f 4 j) → lxC f' (tkN β N i) → K f') : cv mX5_advance [.ref 4] f K := by
  refine w_X5_advance (fun X hX => ?_)
  -- the run of a token's sort
  have run : ∀ (c s : Nat), s < N → soN (β s) = c → (c = 1 ∨ c = 2) → ∀ k j g, j + k = N → s < j → (∀ c, c ≠ 4 → g c = f c) → (∀ j, j ≠ 2 → j ≠ 3 → j ≠ 4 → g 4 j = f 4 j) → g 4 2 = nI c → g 4 3 = nI s → g 4 4 = nI j → (∀ f', (∀ c, c ≠ 4 → f' c = f c) → (∀ j, j ≠ 2 → j ≠ 3 → j ≠ 4 → f' 4 j = f 4 j) → lxC f' (if c = 2 ∧ 3 < ruN β c k j - s then 5 else c, s, ruN β c k j) → K f') → Z X mX5_advance 118 [(0, .ref 4), (1, .int 1)] [] (zC g) := by
    intro c s hs hc hcc k
    induction k with
    | zero =>
      intro j g hj hsj b1 b2 b3 b4 b5 hk
      have fin : ((¬ (g 4 2) = 2 → K g) ∧ ((g 4 2) = 2 → ((((g 4 4) - (g 4 3)) ≤ 3 → K g) ∧ (¬ ((g 4 4) - (g 4 3)) ≤ 3 → K (zup g 4 2 5))))) := by
        rw [b3, b4, b5, nI_subI (by omega)]
        unfold ruN at hk
        refine ⟨fun q => ?_, fun q => ⟨fun q2 => ?_, fun q2 => ?_⟩⟩
        · rw [if_neg (fun z => q (by rw [z.1]; rfl))] at hk
          exact hk g b1 b2 ⟨b3, b4, b5⟩
        · have q2 : j - s ≤ 3 := (nI_leI (b := 3) (by omega) (by omega)).mp q2
          rw [if_neg (by omega)] at hk
          exact hk g b1 b2 ⟨b3, b4, b5⟩
        · have q2 : ¬ j - s ≤ 3 := fun z => q2 (nI_le (b := 3) z (by omega))
          have q : c = 2 := (nI_lit (b := 2) (c := 2) (by omega) (by omega) rfl).mp q
          rw [if_pos (by omega)] at hk
          exact hk _ (fun c hc => by rw [zup_ne hc]; exact b1 c hc) (fun j j2 j3 j4 => by rw [up_sl j2]; exact b2 j j2 j3 j4) ⟨up_at, by rw [up_sl (by omega)]; exact b4, by rw [up_sl (by omega)]; exact b5⟩
      refine l_X5_advance_118 hX ⟨fun q => absurd q (by decide), fun _ => ⟨fun _ => fin, fun q => absurd ?_ q⟩⟩
      rw [b5, b2 1 (by omega) (by omega) (by omega), hT.1]
      exact nI_le (by omega) (by omega)
    | succ k ih =>
      intro j g hj hsj b1 b2 b3 b4 b5 hk
      have gT : tpC g β N := ⟨by rw [b2 1 (by omega) (by omega) (by omega)]; exact hT.1, fun j hj => by rw [b1 5 (by omega)]; exact hT.2 j hj⟩
      have sj := soN_le (β j)
      refine l_X5_advance_118 hX ⟨fun q => absurd q (by decide), fun _ => ⟨fun q => absurd q ?_, fun _ => ?_⟩⟩
      · rw [b5, gT.1]
        exact nI_ge (by omega) (by omega)
      · rw [b5]
        refine q_byte hN gT (by omega) (q_sortOf (hβ j (by omega)) ?_)
        rw [b3]
        unfold ruN at hk
        refine ⟨fun q => ?_, fun q => ?_⟩
        · have q : ¬ soN (β j) = c := fun z => q (by rw [z])
          rw [if_neg q] at hk
          have fin : ((¬ nI c = 2 → K g) ∧ (nI c = 2 → ((((g 4 4) - (g 4 3)) ≤ 3 → K g) ∧ (¬ ((g 4 4) - (g 4 3)) ≤ 3 → K (zup g 4 2 5))))) := by
            rw [b4, b5, nI_subI (by omega)]
            refine ⟨fun q => ?_, fun q => ⟨fun q2 => ?_, fun q2 => ?_⟩⟩
            · rw [if_neg (fun z => q (by rw [z.1]; rfl))] at hk
              exact hk g b1 b2 ⟨b3, b4, b5⟩
            · have q2 : j - s ≤ 3 := (nI_leI (b := 3) (by omega) (by omega)).mp q2
              rw [if_neg (by omega)] at hk
              exact hk g b1 b2 ⟨b3, b4, b5⟩
            · have q2 : ¬ j - s ≤ 3 := fun z => q2 (nI_le (b := 3) z (by omega))
              have q : c = 2 := (nI_lit (b := 2) (c := 2) (by omega) (by omega) rfl).mp q
              rw [if_pos (by omega)] at hk
              exact hk _ (fun c hc => by rw [zup_ne hc]; exact b1 c hc) (fun j j2 j3 j4 => by rw [up_sl j2]; exact b2 j j2 j3 j4) ⟨up_at, by rw [up_sl (by omega)]; exact b4, by rw [up_sl (by omega)]; exact b5⟩
          exact fin
        · have q : soN (β j) = c := (nI_eq (by omega) (by omega)).mp q
          rw [if_pos q] at hk
          refine ih (j + 1) _ (by omega) (by omega) (fun c hc => by rw [zup_ne hc]; exact b1 c hc) (fun j j2 j3 j4 => by rw [up_sl j4]; exact b2 j j2 j3 j4) (by rw [up_sl (by omega)]; exact b3) (by rw [up_sl (by omega)]; exact b4) ?_ hk
          rw [up_at, b5]
          exact nI_1 j
  have key : ∀ k i g, i + k = N → (∀ c, c ≠ 4 → g c = f c) → (∀ j, j ≠ 2 → j ≠ 3 → j ≠ 4 → g 4 j = f 4 j) → g 4 4 = nI i → (∀ f', (∀ c, c ≠ 4 → f' c = f c) → (∀ j, j ≠ 2 → j ≠ 3 → j ≠ 4 → f' 4 j = f 4 j) → lxC f' (tkAt β N (ruN β 6 k i)) → K f') → Z X mX5_advance 0 [(0, .ref 4)] [] (zC g) := by
    intro k
    induction k with
    | zero =>
      intro i g hi b1 b2 b3 hk
      have e : i = N := by omega
      subst e
      have g1 : g 4 1 = nI i := by rw [b2 1 (by omega) (by omega) (by omega)]; exact hT.1
      refine l_X5_advance_0 hX ⟨fun _ => ⟨fun q => absurd q ?_, fun _ => hk _ (fun c hc => by rw [zup_ne hc, zup_ne hc]; exact b1 c hc) (fun j j2 j3 j4 => by rw [up_sl j2, up_sl j3]; exact b2 j j2 j3 j4) ?_⟩, fun q => absurd ?_ q⟩
      · rw [b3, g1]
        exact nI_nlt (Nat.le_refl _) (by omega)
      · unfold ruN tkAt
        rw [if_neg (by omega)]
        refine ⟨up_at, ?_, ?_⟩
        · rw [up_sl (by omega), up_at]
          exact b3
        · rw [up_sl (by omega), up_sl (by omega)]
          exact b3
      · rw [b3, g1]
        exact Int32.le_refl _
    | succ k ih =>
      intro i g hi b1 b2 b3 hk
      have gT : tpC g β N := ⟨by rw [b2 1 (by omega) (by omega) (by omega)]; exact hT.1, fun j hj => by rw [b1 5 (by omega)]; exact hT.2 j hj⟩
      have si := soN_le (β i)
      refine l_X5_advance_0 hX ⟨fun q => absurd q ?_, fun _ => ?_⟩
      · rw [b3, gT.1]
        exact nI_ge (by omega) (by omega)
      · rw [b3]
        refine q_byte hN gT (by omega) (q_sortOf (hβ i (by omega)) ⟨fun q => ?_, fun q => ?_⟩)
        · have q : ¬ soN (β i) = 6 := fun z => q (by rw [z]; rfl)
          have er : ruN β 6 (k + 1) i = i := by
            unfold ruN
            rw [if_neg q]
          rw [er] at hk
          rw [b3]
          refine ⟨fun _ => ?_, fun q => absurd (by rw [gT.1]; exact nI_lt (by omega) (by omega)) q⟩
          have gT2 : tpC (zup g 4 3 (nI i)) β N := ⟨by rw [up_sl (by omega)]; exact gT.1, fun j hj => by rw [zup_ne (by omega)]; exact gT.2 j hj⟩
          refine q_byte hN gT2 (by omega) (q_sortOf (hβ i (by omega)) (fun z1 e1 => ?_))
          have x4 : zup g 4 3 (nI i) 4 4 = nI i := by rw [up_sl (by omega)]; exact b3
          rw [x4, nI_1]
          have c1 : ∀ c, c ≠ 4 → (zup (zup (zup g 4 3 (nI i)) 4 2 (nI (soN (β i)))) 4 4 (nI (i + 1))) c = f c := fun c hc => by rw [zup_ne hc, zup_ne hc, zup_ne hc]; exact b1 c hc
          have c2 : ∀ j, j ≠ 2 → j ≠ 3 → j ≠ 4 → (zup (zup (zup g 4 3 (nI i)) 4 2 (nI (soN (β i)))) 4 4 (nI (i + 1))) 4 j = f 4 j := fun j j2 j3 j4 => by rw [up_sl j4, up_sl j2, up_sl j3]; exact b2 j j2 j3 j4
          have c3 : (zup (zup (zup g 4 3 (nI i)) 4 2 (nI (soN (β i)))) 4 4 (nI (i + 1))) 4 2 = nI (soN (β i)) := by rw [up_sl (by omega), up_at]
          have c4 : (zup (zup (zup g 4 3 (nI i)) 4 2 (nI (soN (β i)))) 4 4 (nI (i + 1))) 4 3 = nI i := by rw [up_sl (by omega), up_sl (by omega), up_at]
          have hr : ∀ c, soN (β i) = c → ruN β c (N - i) i = ruN β c k (i + 1) := by
            intro c e
            rw [show N - i = k + 1 by omega, ruN, if_pos e]
          have hNi : i < N := by omega
          by_cases q1 : soN (β i) = 1
          · have e1 : z1 = 1 := by rw [e1, q1]; rfl
            rw [e1]
            refine run 1 i (by omega) q1 (Or.inl rfl) k (i + 1) _ (by omega) (by omega) c1 c2 (by rw [c3, q1]) c4 up_at (fun f' d1 d2 d3 => hk f' d1 d2 ?_)
            unfold tkAt
            rw [if_pos hNi, if_pos q1, hr 1 q1]
            rw [if_neg (by omega)] at d3
            exact d3
          · by_cases q2 : soN (β i) = 2
            · have e1 : z1 = 1 := by rw [e1, q2]; rfl
              rw [e1]
              refine run 2 i (by omega) q2 (Or.inr rfl) k (i + 1) _ (by omega) (by omega) c1 c2 (by rw [c3, q2]) c4 up_at (fun f' d1 d2 d3 => hk f' d1 d2 ?_)
              unfold tkAt
              rw [if_pos hNi, if_neg q1, if_pos q2, hr 2 q2]
              by_cases z : 3 < ruN β 2 k (i + 1) - i
              · rw [if_pos ⟨rfl, z⟩] at d3
                rw [if_pos z]
                exact d3
              · rw [if_neg (fun w => z w.2)] at d3
                rw [if_neg z]
                exact d3
            · have e1 : z1 = 0 := by
                rw [e1, if_neg (fun z => q1 ((nI_lit (b := 1) (c := 1) (by omega) (by omega) rfl).mp z)), if_neg (fun z => q2 ((nI_lit (b := 2) (c := 2) (by omega) (by omega) rfl).mp z))]
              rw [e1]
              refine l_X5_advance_118 hX ⟨fun _ => ?_, fun q => absurd rfl q⟩
              rw [c3]
              refine ⟨fun _ => hk _ c1 c2 ?_, fun z => absurd ((nI_lit (b := 2) (c := 2) (by omega) (by omega) rfl).mp z) q2⟩
              unfold tkAt
              rw [if_pos hNi, if_neg q1, if_neg q2]
              exact ⟨c3, c4, up_at⟩
        · have q : soN (β i) = 6 := (nI_lit (b := 6) (c := 6) (by omega) (by omega) rfl).mp q
          have er : ruN β 6 (k + 1) i = ruN β 6 k (i + 1) := by
            rw [ruN, if_pos q]
          rw [er] at hk
          rw [b3, nI_1]
          exact ih (i + 1) _ (by omega) (fun c hc => by rw [zup_ne hc]; exact b1 c hc) (fun j j2 j3 j4 => by rw [up_sl j4]; exact b2 j j2 j3 j4) up_at hk
  have e : N - i + i = N := by omega
  exact key (N - i) i f (by omega) (fun _ _ => rfl) (fun _ _ _ _ => rfl) h4 h
