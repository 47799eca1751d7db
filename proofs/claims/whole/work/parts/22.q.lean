/-! ===== the class: what its page answers ===== -/
theorem pg12 : isPage 12 := Or.inr (Or.inl rfl)
theorem q_item {f : zF} {K : Int32 → zF → Prop} {q n i : Nat} (hq : q < 63) (hs : zSH q = (8, n)) (hn : n ≤ 400) (hi : i < n) (h : K (f q i) f) : ci mX6_itemOf [.ref q, .int (nI i)] f K := by
  refine w_X6_itemOf hq hs ⟨fun c => absurd c (nI_pos (by omega)), fun _ => ⟨fun c => absurd c (nI_ge hi (by omega)), fun _ => ⟨vp_in_nI hi (by omega), ?_⟩⟩⟩
  rw [nI_clamp (by omega)]
  exact h
theorem q_put {f : zF} {K : zF → Prop} {q n i : Nat} {v : Int32} (hq : q < 63) (hs : zSH q = (8, n)) (hn : n ≤ 400) (hi : i < n) (h : K (zup f q i v)) : cv mX6_putItem [.ref q, .int (nI i), .int v] f K := by
  refine w_X6_putItem hq hs ⟨fun c => absurd c (nI_pos (by omega)), fun _ => ⟨fun c => absurd c (nI_ge hi (by omega)), fun _ => ⟨vp_in_nI hi (by omega), ?_⟩⟩⟩
  rw [nI_clamp (by omega)]
  exact h
theorem q_cellsOf {f : zF} {K : Int32 → zF → Prop} {A : aPg} (hP : CP f 12 A) (ok : okPg A) {l : Nat} (hl : l < pL A) (h : K (nI (pE A l)) f) : ci mX2_cellsOf [.ref 12, .int (nI l)] f K := by
  refine w_X2_cellsOf pg12 (q_item (n := 8) (by decide) rfl (by decide) (Nat.lt_of_lt_of_le hl ok.2.1) ?_)
  rw [(hP.2.2.2.1 l hl).1]
  exact h
theorem q_kindOf {f : zF} {K : Int32 → zF → Prop} {A : aPg} (hP : CP f 12 A) (ok : okPg A) {l : Nat} (hl : l < pL A) (h : K (nI (pK A l)) f) : ci mX2_kindOf [.ref 12, .int (nI l)] f K := by
  refine w_X2_kindOf pg12 (q_item (n := 8) (by decide) rfl (by decide) (Nat.lt_of_lt_of_le hl ok.2.1) ?_)
  rw [(hP.2.2.2.1 l hl).2.1]
  exact h
theorem q_throughOf {f : zF} {K : Int32 → zF → Prop} {A : aPg} (hP : CP f 12 A) (ok : okPg A) {l : Nat} (hl : l < pL A) (h : K (nI (pT A l)) f) : ci mX2_throughOf [.ref 12, .int (nI l)] f K := by
  refine w_X2_throughOf pg12 (q_item (n := 8) (by decide) rfl (by decide) (Nat.lt_of_lt_of_le hl ok.2.1) ?_)
  rw [(hP.2.2.2.1 l hl).2.2]
  exact h
theorem nI_s0 {s : Nat} (hs : s < 2) (h : nI s = 0) : s = 0 := (nI_eq (b := 0) (by omega) (by omega)).mp h
theorem q_letterAt {f : zF} {K : Int32 → zF → Prop} {A : aPg} (hP : CP f 12 A) (ok : okPg A) {s p : Nat} (hs : s < 2) (hp : p < pP A) (h : K (nI (pS A s p)) f) : ci mX2_letterAt [.ref 12, .int (nI s), .int (nI p)] f K := by
  have h9 : p < 9 := Nat.lt_of_lt_of_le hp ok.2.2.1
  have e := hP.2.2.2.2 p hp
  refine w_X2_letterAt pg12 ⟨fun c => ?_, fun c => ?_⟩
  · refine q_item (n := 9) (by decide) rfl (by decide) h9 ?_
    rw [e.2]
    unfold pS at h
    rw [if_neg (fun z => c (by rw [z]; rfl))] at h
    exact h
  · refine q_item (n := 9) (by decide) rfl (by decide) h9 ?_
    rw [e.1]
    unfold pS at h
    rw [if_pos (nI_s0 hs c)] at h
    exact h
theorem nI_bk {P p : Nat} (hp : p < P) : nI P - 1 - nI p = nI (P - 1 - p) := by
  rw [show (1 : Int32) = nI 1 from rfl, pk_sub (by omega), pk_sub (by omega)]
theorem q_letterBehind {f : zF} {K : Int32 → zF → Prop} {A : aPg} (hP : CP f 12 A) (ok : okPg A) {s p : Nat} (hs : s < 2) (hp : p < pP A) (h : K (nI (pS A (1 - s) (pP A - 1 - p))) f) : ci mX2_letterBehind [.ref 12, .int (nI s), .int (nI p)] f K := by
  refine w_X2_letterBehind pg12 (fun z1 e1 => ?_)
  rw [hP.2.2.1, nI_bk hp]
  have e : z1 = nI (1 - s) := by
    rw [e1]
    rcases (show s = 0 ∨ s = 1 by omega) with rfl | rfl <;> rfl
  rw [e]
  exact q_letterAt hP ok (by omega) (by omega) h
theorem q_shownOf {f : zF} {K : Int32 → zF → Prop} {A : aPg} (hP : CP f 12 A) (ok : okPg A) {a b : Nat} (ha : a < pL A) (hb : b < pL A) (h : K (nI (pSh A a b)) f) : ci mX2_shownOf [.ref 12, .int (nI a), .int (nI b)] f K := by
  refine w_X2_shownOf pg12 (q_item (n := 8) (by decide) rfl (by decide) (Nat.lt_of_lt_of_le ha ok.2.1) (q_item (n := 8) (by decide) rfl (by decide) (Nat.lt_of_lt_of_le hb ok.2.1) ?_))
  rw [(hP.2.2.2.1 a ha).1, (hP.2.2.2.1 b hb).2.2, sp_or]
  exact h
def pLi (A : aPg) (s p : Nat) : Nat := pSh A (pS A s p) (pS A (1 - s) (pP A - 1 - p))
theorem pLi_lt {A : aPg} (ok : okPg A) {s p : Nat} (hp : p < pP A) : pLi A s p < 512 := pSh_lt ok (pS_lt ok hp) (pS_lt ok (by omega))
theorem q_shownByLight {f : zF} {K : Int32 → zF → Prop} {A : aPg} (hP : CP f 12 A) (ok : okPg A) {s p : Nat} (hs : s < 2) (hp : p < pP A) (h : K (nI (pLi A s p)) f) : ci mX2_shownByLight [.ref 12, .int (nI s), .int (nI p)] f K :=
  w_X2_shownByLight pg12 (q_letterAt hP ok hs hp (q_letterBehind hP ok hs hp (q_shownOf hP ok (pS_lt ok hp) (pS_lt ok (by omega)) h)))
theorem q_offOf {f : zF} {K : Int32 → zF → Prop} {A : aPg} (hP : CP f 12 A) (ok : okPg A) {l s : Nat} (hl : l < pL A) (hs : s < 512) (h : K (nI (pOf A s l)) f) : ci mX2_offOf [.ref 12, .int (nI l), .int (nI s)] f K := by
  refine w_X2_offOf pg12 (q_item (n := 8) (by decide) rfl (by decide) (Nat.lt_of_lt_of_le hl ok.2.1) ?_)
  rw [(hP.2.2.2.1 l hl).1, sp_xor]
  exact j_bitCount (sp_xor_lt (pE_lt ok hl) hs) h
theorem q_nearest {f : zF} {K : Int32 → zF → Prop} {A : aPg} (hP : CP f 12 A) (ok : okPg A) {s : Nat} (hs : s < 512) (h : K (nI (pNr A s)) f) : ci mX2_nearest [.ref 12, .int (nI s)] f K := by
  refine w_X2_nearest pg12 (fun X hX => ?_)
  have h8 := ok.2.1
  have key : ∀ k n, 0 < n → n + k = pL A → Z X mX2_nearest 4 [(0, .ref 12), (1, .int (nI s)), (2, .int (nI (nrD (pOf A s) n))), (3, .int (nI n))] [] (zC f) := by
    intro k
    induction k with
    | zero =>
      intro n h0 hn
      refine l_X2_nearest_4 pg12 hX ⟨fun _ => ?_, fun q => absurd (by rw [hP.2.1, ← hn]; exact Int32.le_refl _) q⟩
      have e : n = pL A := by omega
      rw [e]
      exact h
    | succ k ih =>
      intro n h0 hn
      have h3 := nrD_lt (pOf A s) n h0
      refine l_X2_nearest_4 pg12 hX ⟨fun q => absurd q (by rw [hP.2.1]; exact nI_ge (by omega) (by omega)), fun _ => ?_⟩
      refine q_offOf hP ok (by omega) hs (q_offOf hP ok (by omega) hs ⟨fun q => ?_, fun q => ?_⟩)
      · have h1 := (nI_leI (by have := pOf_le A s (nrD (pOf A s) n); omega) (by have := pOf_le A s n; omega)).mp q
        have h2 := ih (n + 1) (by omega) (by omega)
        rw [nI_succ, nrD, if_neg (by omega), if_neg (by omega)] at h2
        exact h2
      · have h1 : pOf A s n < pOf A s (nrD (pOf A s) n) := by
          apply Nat.lt_of_not_le
          intro z
          exact q ((nI_leI (by have := pOf_le A s (nrD (pOf A s) n); omega) (by have := pOf_le A s n; omega)).mpr z)
        have h2 := ih (n + 1) (by omega) (by omega)
        rw [nI_succ, nrD, if_neg (by omega), if_pos h1] at h2
        exact h2
  rcases Nat.eq_zero_or_pos (pL A) with h0 | h0
  · refine l_X2_nearest_4 pg12 hX ⟨fun _ => ?_, fun q => absurd (by rw [hP.2.1, h0]; exact nI_le (a := 0) (b := 1) (by omega) (by omega)) q⟩
    unfold pNr at h
    rw [h0] at h
    exact h
  · exact key (pL A - 1) 1 (by omega) (by omega)
theorem q_leastOff {f : zF} {K : Int32 → zF → Prop} {A : aPg} (hP : CP f 12 A) (ok : okPg A) (h0 : 0 < pL A) {s : Nat} (hs : s < 512) (h : K (nI (pLo A s)) f) : ci mX2_leastOff [.ref 12, .int (nI s)] f K :=
  w_X2_leastOff pg12 (q_nearest hP ok hs (q_offOf hP ok (pNr_lt h0) hs h))
theorem q_isDoubt {f : zF} {K : Int32 → zF → Prop} {A : aPg} (hP : CP f 12 A) (ok : okPg A) (h0 : 0 < pL A) {s : Nat} (hs : s < 512) (h : K (if 1 < pCt A s then 1 else 0) f) : ci mX2_isDoubt [.ref 12, .int (nI s)] f K := by
  refine w_X2_isDoubt pg12 (fun X hX => q_leastOff hP ok h0 hs ?_)
  have h8 := ok.2.1
  have key : ∀ k n, n + k = pL A → Z X mX2_isDoubt 11 [(0, .ref 12), (1, .int (nI s)), (2, .int (nI (pLo A s))), (3, .int (nI (ctD (pOf A s) (pLo A s) n))), (4, .int (nI n))] [] (zC f) := by
    intro k
    induction k with
    | zero =>
      intro n hn
      have e : n = pL A := by omega
      have hc := ctD_le (pOf A s) (pLo A s) n
      refine l_X2_isDoubt_11 pg12 hX ⟨fun _ => ⟨fun q => ?_, fun q => ?_⟩, fun q => absurd (by rw [hP.2.1, ← hn]; exact Int32.le_refl _) q⟩
      · rw [if_neg] at h
        · exact h
        · have h1 := (nI_leI (b := 1) (by omega) (by omega)).mp q
          unfold pCt
          rw [← e]
          omega
      · rw [if_pos] at h
        · exact h
        · apply Nat.lt_of_not_le
          intro z
          apply q
          unfold pCt at z
          rw [← e] at z
          exact nI_le (b := 1) z (by omega)
    | succ k ih =>
      intro n hn
      refine l_X2_isDoubt_11 pg12 hX ⟨fun q => absurd q (by rw [hP.2.1]; exact nI_ge (by omega) (by omega)), fun _ => ?_⟩
      have h2 := ih (n + 1) (by omega)
      have ho := pOf_le A s n
      have hlo := pOf_le A s (pNr A s)
      refine q_offOf hP ok (by omega) hs ⟨fun q => ?_, fun q => ?_⟩
      · rw [nI_succ, ctD, if_neg (fun z => q (by rw [z]))] at h2
        exact h2
      · rw [nI_succ, ctD, if_pos ((nI_eq (by omega) (by unfold pLo; omega)).mp q), nI_succ] at h2
        exact h2
  exact key (pL A) 0 (by omega)
