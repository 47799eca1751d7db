/-! ===== the reference reads a page; the pair ===== -/
def mS (f0 : zF) (β : Nat → Nat) (N : Nat) (r : Rs St) (K : zF → Prop) : Prop := match r with
  | .inl e => ∀ f, mX f0 β N e f → K f
  | .inr S => ∀ f, mR f0 β N S (pP S.2) f → K f
section
variable {f0 f : zF} {β : Nat → Nat} {N q : Nat} {S : St} {e : Nat × Nat}
theorem m_sheX {K : zF → Prop} (hN : N ≤ 400) (hβ : ∀ j, j < N → β j < 256) (hT : tpM f0 β N) (h : mX f0 β N e f) (k : K f) : cv mX7_readSheet [.ref 52] f K :=
  w_X7_readSheet (fun X hX => m_nameX hN hβ hT h (fun z2 _ => m_mustX h (w_X7_readFront (fun X2 hX2 => m_froX hX2 h ⟨fun _ => m_bckX hX h k, fun z => absurd z (mX_ne h)⟩))))
theorem m_she {K : zF → Prop} (hN : N ≤ 400) (hβ : ∀ j, j < N → β j < 256) (hT : tpM f0 β N) (h : mR f0 β N S 0 f) (h0 : pP S.2 = 0) (hL : 1 ≤ pL S.2) (k : mS f0 β N (rShe β N S) K) : cv mX7_readSheet [.ref 52] f K := by
  unfold rShe tW at k
  refine w_X7_readSheet (fun X hX => m_nameR hN hβ hT h (fun z2 e2 => ?_))
  have i7 := nm_is h.2.2.2.1 (w := 7) (by omega) c_7
  by_cases hw : isW β S.1 7
  · rw [if_pos hw] at k
    rw [if_pos (i7.mpr hw)] at e2
    subst e2
    have k : mS f0 β N (bnd (rFro β N 9 (nxS β N S)) fun S => bnd (tG β N 4 S) fun S => bnd (rBck β N (pP S.2) 0 S) fun S => tG β N 3 S) K := k
    refine m_must1 hN hβ hT h (fun f1 h1 => m_fro hN hβ hT h1 h0 hL ?_)
    cases e2 : rFro β N 9 (nxS β N S) with
    | inl e => rw [e2] at k; exact fun f2 h2 => ⟨fun _ => m_bckX hX h2 (k f2 h2), fun z => absurd z (mX_ne h2)⟩
    | inr S2 =>
      rw [e2] at k
      have a2 := rFro_L 9 _ S2 e2
      have a2 : pL S2.2 = pL S.2 := a2
      have k : mS f0 β N (bnd (tG β N 4 S2) fun S => bnd (rBck β N (pP S.2) 0 S) fun S => tG β N 3 S) K := k
      refine fun f2 h2 => ⟨fun z => absurd h2.2.1 z, fun _ z5 e5 => m_mustT (t := 4) hN hβ hT e5 (by rw [h2.2.2.1.1]; exact mT_5 h2.2.2.2.1.1) h2 ?_⟩
      cases e3 : tG β N 4 S2 with
      | inl e => rw [e3] at k; exact fun f3 h3 => m_bckX hX h3 (k f3 h3)
      | inr S3 =>
        rw [e3] at k
        have a3 := tG_2 e3
        have k : mS f0 β N (bnd (rBck β N (pP S3.2) 0 S3) (tG β N 3)) K := k
        refine fun f3 h3 => m_bck (P := pP S3.2) hN hβ hT hX h3 rfl (by rw [a3, a2]; exact hL) ?_
        cases e4 : rBck β N (pP S3.2) 0 S3 with
        | inl e => rw [e4] at k; exact k
        | inr S4 =>
          rw [e4] at k
          have a4 := (rBck_P _ _ _ _ e4).1
          have k : mS f0 β N (tG β N 3 S4) K := k
          show mO f0 β N (pP S3.2) (tG β N 3 S4) K
          cases e5 : tG β N 3 S4 with
          | inl e => rw [e5] at k; exact k
          | inr S5 =>
            rw [e5] at k
            have a5 := tG_2 e5
            refine fun f5 h5 => k f5 ?_
            rw [a5, a4]
            exact h5
  · rw [if_neg hw] at k
    rw [if_neg (fun z => hw (i7.mp z))] at e2
    subst e2
    exact m_must0 h (fun f1 h1 => w_X7_readFront (fun X2 hX2 => m_froX hX2 h1 ⟨fun _ => m_bckX hX h1 (k f1 h1), fun z => absurd z (mX_ne h1)⟩))
/-- how it ends -/
def mP (f0 : zF) (N : Nat) (r : Rs St) (K : Int32 → zF → Prop) : Prop := match r with
  | .inl e => ∀ f, frM f0 f → K (-1000100 - nI e.2) (zup f 52 11 (nI e.1))
  | .inr S => ∀ f, (∀ c, c ≠ 52 → c ≠ 56 → c ≠ 57 → f c = f0 c) → (∀ j, j ≠ 8 → (j < 13 ∨ 18 < j) → f 52 j = f0 52 j) → f 52 8 = 0 → okPg S.2 → MP (f 56) 0 S.2 → K (nI (pP S.2)) f
theorem okD_pg {A : aPg} (h : okD A (pP A)) : okPg A := ⟨h.1, h.2.1, h.2.2.1, h.2.2.2.1, fun p hp => ⟨h.2.2.2.2.1 p hp, h.2.2.2.2.2.1 p hp⟩⟩
theorem m_move {K : Int32 → zF → Prop} {X : zX} (hX : kR X (zRi K)) (k : ∀ f', (∀ c, c ≠ 56 → f' c = f c) → (∀ j, j < 37 → f' 56 j = f 57 j) → K (f' 56 2) f') : Z X mX7_page 155 [(0, .ref 52), (1, .int 0)] [] (zC f) := by
  have key : ∀ m n g, n + m = 37 → (∀ c, c ≠ 56 → g c = f c) → (∀ j, j < n → g 56 j = f 57 j) → Z X mX7_page 155 [(0, .ref 52), (1, .int (nI n))] [] (zC g) := by
    intro m
    induction m with
    | zero =>
      intro n g hn b1 b2
      have e : n = 37 := by omega
      subst e
      exact l_X7_page_155 hX ⟨fun _ => k g b1 b2, fun z => absurd (Int32.le_refl _) z⟩
    | succ m ih =>
      intro n g hn b1 b2
      refine l_X7_page_155 hX ⟨fun z => absurd z (nI_ge (b := 37) (by omega) (by omega)), fun _ => ⟨vp_in_nI (by omega) (by omega), vp_in_nI (by omega) (by omega), ?_⟩⟩
      rw [nI_clamp (by omega), ← nI_succ]
      refine ih (n + 1) _ (by omega) (fun c hc => by rw [zup_ne hc]; exact b1 c hc) (fun j hj => ?_)
      by_cases e : j = n
      · subst e
        rw [up_at, b1 57 (by omega)]
      · rw [up_sl e]
        exact b2 j (by omega)
  exact key 37 0 f rfl (fun _ _ => rfl) (fun j hj => absurd hj (by omega))
theorem m_pgX {K : Int32 → zF → Prop} (hN : N ≤ 400) (hβ : ∀ j, j < N → β j < 256) (hT : tpM f0 β N) {X : zX} (hX : kR X (zRi K)) {x : Int32} (h : mX f0 β N e f) (k : mP f0 N (.inl e) K) : Z X mX7_page 83 [(0, .ref 52), (1, .int x)] [] (zC f) := by
  refine l_X7_page_83 hX (m_nameX hN hβ hT h ⟨fun _ => m_sheX hN hβ hT h ⟨fun _ => ⟨fun z => absurd z (mX_nle h), fun _ => ?_⟩, fun z => absurd z (mX_ne h)⟩, fun z => absurd z (by decide)⟩)
  obtain ⟨a, b, c, d, -⟩ := h
  rw [b, d]
  exact k f a
theorem m_pgS {K : Int32 → zF → Prop} (hN : N ≤ 400) (hβ : ∀ j, j < N → β j < 256) (hT : tpM f0 β N) {X : zX} (hX : kR X (zRi K)) {x : Int32} (h : mR f0 β N S 0 f) (h0 : pP S.2 = 0) (hL : 1 ≤ pL S.2) (nw : ¬ isW β S.1 1) (k : mP f0 N (bnd (rShe β N S) rEnd) K) : Z X mX7_page 83 [(0, .ref 52), (1, .int x)] [] (zC f) := by
  have i1 := nm_is h.2.2.2.1 (w := 1) (by omega) c_1
  refine l_X7_page_83 hX (m_nameR hN hβ hT h ⟨fun _ => m_she hN hβ hT h h0 hL ?_, fun z => absurd (i1.mp z) nw⟩)
  cases e1 : rShe β N S with
  | inl e =>
    rw [e1] at k
    refine fun f1 h1 => ⟨fun _ => ⟨fun z => absurd z (mX_nle h1), fun _ => ?_⟩, fun z => absurd z (mX_ne h1)⟩
    obtain ⟨a, b, c, d, -⟩ := h1
    rw [b, d]
    exact k f1 a
  | inr S1 =>
    rw [e1] at k
    have k : mP f0 N (rEnd S1) K := k
    unfold rEnd at k
    refine fun f1 h1 => ⟨fun z => absurd h1.2.1 z, fun _ => ⟨fun z => ⟨fun _ => ?_, fun z => absurd (by rw [h1.2.1]; exact Int32.le_refl _) z⟩, fun z => ?_⟩⟩
    · rw [h1.2.2.1.1] at z
      rw [if_pos ((mT_1 h1.2.2.2.1.1).mp z)] at k
      refine m_move hX (fun f2 b1 b2 => ?_)
      have okp := okD_pg h1.2.2.2.2.2
      obtain ⟨d1, d2, d3, d4, d5, d6⟩ := id h1.2.2.2.2.1
      have e57 : (zup f1 52 8 0) 57 = f1 57 := zup_ne (by omega)
      have M57 : MP (f1 57) 0 S1.2 := ⟨d1, d2, d3, fun l hl => by rw [Nat.zero_add, Nat.zero_add]; exact d4 l hl, fun p hp => by rw [Nat.zero_add, Nat.zero_add]; exact ⟨d5 p hp, d6 p hp⟩⟩
      have M56 : MP (f2 56) 0 S1.2 := MP_cp (b0 := 0) okp (fun j hj => by rw [Nat.zero_add, b2 j hj, e57]) M57
      rw [show f2 56 2 = nI (pP S1.2) from M56.2.2.1]
      refine k f2 (fun c c1 c2 c3 => ?_) (fun j j1 j2 => ?_) ?_ okp M56
      · rw [b1 c c2, zup_ne c1]
        exact h1.1.1 c c1 c3
      · rw [b1 52 (by omega), up_sl j1]
        exact h1.1.2 j j2
      · rw [b1 52 (by omega), up_at]
    · rw [h1.2.2.1.1] at z
      rw [if_neg (fun y => z ((mT_1 h1.2.2.2.1.1).mpr y))] at k
      refine m_badR (n := 1) (by omega) h1 (fun f2 h2 => ⟨fun z => absurd z (mX_nle h2), fun _ => ?_⟩)
      obtain ⟨a, b, c, d, -⟩ := h2
      rw [b, d]
      exact k f2 a
theorem m_pgL {K : Int32 → zF → Prop} (hN : N ≤ 400) (hβ : ∀ j, j < N → β j < 256) (hT : tpM f0 β N) {X : zX} (hX : kR X (zRi K)) {x : Int32} : ∀ m S f, mR f0 β N S 0 f → pP S.2 = 0 → pL S.2 + m = 8 → (m = 8 → isW β S.1 1) → mP f0 N (bnd (rLts β N m S) fun S => bnd (rShe β N S) rEnd) K → Z X mX7_page 83 [(0, .ref 52), (1, .int x)] [] (zC f) := by
  intro m
  induction m with
  | zero =>
    intro S f h h0 hl _ k
    unfold rLts at k
    by_cases hw : isW β S.1 1
    · rw [if_pos hw] at k
      have i1 := nm_is h.2.2.2.1 (w := 1) (by omega) c_1
      exact l_X7_page_83 hX (m_nameR hN hβ hT h ⟨fun z => absurd (i1.mpr hw) z, fun _ => m_let8 hN hβ hT h (by omega) (fun f1 h1 => m_pgX hN hβ hT hX h1 k)⟩)
    · rw [if_neg hw] at k
      exact m_pgS hN hβ hT hX h h0 (by omega) hw k
  | succ m ih =>
    intro S f h h0 hl hm k
    unfold rLts at k
    by_cases hw : isW β S.1 1
    · rw [if_pos (Or.inr hw)] at k
      have i1 := nm_is h.2.2.2.1 (w := 1) (by omega) c_1
      refine l_X7_page_83 hX (m_nameR hN hβ hT h ⟨fun z => absurd (i1.mpr hw) z, fun _ => m_let hN hβ hT h (by omega) hw ?_⟩)
      cases e1 : rLet β N S with
      | inl e => rw [e1] at k; exact fun f1 h1 => m_pgX hN hβ hT hX h1 k
      | inr S1 =>
        rw [e1] at k
        obtain ⟨l1, p1⟩ := rLet_L e1
        exact fun f1 h1 => ih S1 f1 h1 (by omega) (by omega) (fun z => absurd z (by omega)) k
    · have m7 : ¬ m = 7 := fun z => hw (hm (by omega))
      rw [if_neg (fun z => z.elim m7 hw)] at k
      exact m_pgS hN hβ hT hX h h0 (by omega) hw k
end
theorem m_page {f : zF} {K : Int32 → zF → Prop} {β : Nat → Nat} {N : Nat} (hN : N ≤ 400) (hβ : ∀ j, j < N → β j < 256) (h10 : f 52 10 = nI N) (hB : ∀ j, j < N → f 59 j = nI (β j)) (k : mP (zup (zup (zup (zup (zup f 52 0 0) 52 12 (nI N)) 52 10 0) 52 13 0) 52 17 0) N (rPag β N) K) : ci mX7_page [.ref 52] f K := by
  have x10 : (zup f 52 0 0) 52 10 = nI N := by rw [up_sl (by omega)]; exact h10
  refine w_X7_page (fun X hX => w_X7_begin ?_)
  rw [x10]
  generalize hg : zup (zup (zup (zup (zup f 52 0 0) 52 12 (nI N)) 52 10 0) 52 13 0) 52 17 0 = g at k
  have hT : tpM g β N := by
    refine ⟨?_, fun j hj => ?_⟩
    · rw [← hg, up_sl (by omega), up_sl (by omega), up_sl (by omega), up_at]
    · rw [← hg, zup_ne (by omega), zup_ne (by omega), zup_ne (by omega), zup_ne (by omega), zup_ne (by omega)]
      exact hB j hj
  have g13 : g 52 13 = nI 0 := by rw [← hg, up_sl (by omega), up_at]; rfl
  have g17 : g 52 17 = 0 := by rw [← hg]; exact up_at
  refine m_next (i := 0) hN hβ hT (by omega) g13 (fun f1 b1 b2 => ?_)
  have key : ∀ m n f2, n + m = 37 → (∀ c, c ≠ 57 → f2 c = f1 c) → (∀ j, j < n → f2 57 j = 0) → Z X mX7_page 11 [(0, .ref 52), (1, .int (nI n))] [] (zC f2) := by
    intro m
    induction m with
    | succ m ih =>
      intro n f2 hn d1 d2
      refine l_X7_page_11 hX ⟨fun z => absurd z (nI_ge (b := 37) (by omega) (by omega)), fun _ => ⟨vp_in_nI (by omega) (by omega), ?_⟩⟩
      rw [nI_clamp (by omega), ← nI_succ]
      refine ih (n + 1) _ (by omega) (fun c hc => by rw [zup_ne hc]; exact d1 c hc) (fun j hj => ?_)
      by_cases e : j = n
      · subst e
        exact up_at
      · rw [up_sl e]
        exact d2 j (by omega)
    | zero =>
      intro n f2 hn d1 d2
      have e : n = 37 := by omega
      subst e
      have R0 : mR g β N (S0 β N) 0 f2 := by
        refine ⟨⟨fun c c1 c2 => by rw [d1 c c2, b1.1 c c1], fun j hj => by rw [d1 52 (by omega), b1.2 j (by omega) (by omega) (by omega) (by omega)]⟩, by rw [d1 52 (by omega), b1.2 17 (by omega) (by omega) (by omega) (by omega)]; exact g17, lxM_eq (fun j _ _ => by rw [d1 52 (by omega)]) b2, wf_tk (by omega), ⟨d2 0 (by omega), d2 1 (by omega), d2 2 (by omega), fun l hl => absurd hl (by show ¬ l < 0; omega), fun p hp => absurd hp (by show ¬ p < 0; omega), fun p hp => absurd hp (by omega)⟩, ⟨by show 0 ≤ 9; omega, by show 0 ≤ 8; omega, by show 0 ≤ 9; omega, fun l hl => absurd hl (by show ¬ l < 0; omega), fun p hp => absurd hp (by show ¬ p < 0; omega), fun p hp => absurd hp (by omega), by show 0 ≤ 0; omega⟩⟩
      have k : mP g N (bnd (rLaw β N (S0 β N)) fun S => bnd (rLts β N 8 S) fun S => bnd (rShe β N S) rEnd) K := k
      -- once faulty, to the end
      have bad : ∀ {e : Nat × Nat} {f3 : zF}, mX g β N e f3 → mP g N (.inl e) K → cl mX7_name [.ref 52] f3 (fun r107 f107 => (((lg_cmp r107 119183001281906) = 0 → Z X mX7_page 83 [(0, .ref 52), (1, .int (nI 37))] [] (zC f107)) ∧ (¬ (lg_cmp r107 119183001281906) = 0 → cv mX7_bad [.ref 52, .int 1] f107 (fun f108 => Z X mX7_page 83 [(0, .ref 52), (1, .int (nI 37))] [] (zC f108))))) := fun h3 k3 => m_nameX hN hβ hT h3 ⟨fun _ => m_pgX hN hβ hT hX h3 k3, fun _ => m_badX h3 (m_pgX hN hβ hT hX h3 k3)⟩
      have i0 := nm_is R0.2.2.2.1 (w := 0) (by omega) c_0
      refine l_X7_page_11 hX ⟨fun _ => m_nameR hN hβ hT R0 (fun z1 e1 => ?_), fun z => absurd (Int32.le_refl _) z⟩
      unfold rLaw tW at k
      by_cases hw : isW β (S0 β N).1 0
      · rw [if_pos hw] at k
        rw [if_pos (i0.mpr hw)] at e1
        subst e1
        have k : mP g N (bnd (bnd (tN β N 9 (nxS β N (S0 β N))) fun q => tG β N 3 (q.1.1, sdD q.1.2 q.2)) fun S => bnd (rLts β N 8 S) fun S => bnd (rShe β N S) rEnd) K := k
        refine m_must1 hN hβ hT R0 (fun f3 h3 => m_numR (m := 9) hN hβ hT (by omega) h3 ?_)
        cases e2 : tN β N 9 (nxS β N (S0 β N)) with
        | inl e => rw [e2] at k; exact fun f4 h4 x => m_endX (mX_57 h4) (bad (mX_57 h4) k)
        | inr S2 =>
          rw [e2] at k
          obtain ⟨S2, v⟩ := S2
          obtain ⟨hv, e3⟩ := tN_in e2
          have e3 : S2.2 = (S0 β N).2 := e3
          have k : mP g N (bnd (tG β N 3 (S2.1, sdD S2.2 v)) fun S => bnd (rLts β N 8 S) fun S => bnd (rShe β N S) rEnd) K := k
          refine fun f4 h4 => ?_
          have h4 : mR g β N S2 0 f4 := h4
          have h5 : mR g β N (S2.1, sdD S2.2 v) 0 (zup f4 57 0 (nI v)) := by
            obtain ⟨d1, d2, d3, d4, d5, d6⟩ := id h4.2.2.2.2.1
            refine ⟨frM_57 h4.1, by rw [zup_ne (by omega)]; exact h4.2.1, lxM_eq (fun j _ _ => by rw [zup_ne (by omega)]) h4.2.2.1, h4.2.2.2.1, ⟨up_at, by rw [up_sl (by omega)]; exact d2, by rw [up_sl (by omega)]; exact d3, fun l hl => by rw [up_sl (by omega), up_sl (by omega)]; exact d4 l hl, fun p hp => by rw [up_sl (by omega)]; exact d5 p hp, fun p hp => absurd hp (by omega)⟩, ⟨hv, h4.2.2.2.2.2.2⟩⟩
          refine m_endR hN hβ hT h5 ?_
          cases e6 : tG β N 3 (S2.1, sdD S2.2 v) with
          | inl e => rw [e6] at k; exact fun f6 h6 => bad h6 k
          | inr S6 =>
            rw [e6] at k
            have a6 := tG_2 e6
            have l6 : pL S6.2 = 0 := by rw [a6]; show pL S2.2 = 0; rw [e3]; rfl
            have p6 : pP S6.2 = 0 := by rw [a6]; show pP S2.2 = 0; rw [e3]; rfl
            refine fun f6 h6 => m_nameR hN hβ hT h6 ?_
            have i1 := nm_is h6.2.2.2.1 (w := 1) (by omega) c_1
            rw [i1]
            refine ⟨fun hw1 => m_pgL hN hβ hT hX 8 S6 f6 h6 p6 (by omega) (fun _ => hw1) k, fun hw1 => m_badR (n := 1) (by omega) h6 (fun f7 h7 => m_pgX hN hβ hT hX h7 ?_)⟩
            have k : mP g N (bnd (rLts β N 8 S6) fun S => bnd (rShe β N S) rEnd) K := k
            unfold rLts at k
            rw [if_pos (Or.inl rfl)] at k
            unfold rLet tW at k
            rw [if_neg hw1] at k
            exact k
      · rw [if_neg hw] at k
        rw [if_neg (fun z => hw (i0.mp z))] at e1
        subst e1
        exact m_must0 R0 (fun f3 h3 => m_numX h3 (m_endX (mX_57 h3) (bad (mX_57 h3) k)))
  exact key 37 0 f1 rfl (fun _ _ => rfl) (fun j hj => absurd hj (by omega))
