/-! ===== both: sets, harm, fewest anew ===== -/
/-- the set of the numbers below n that q holds of -/
def bsN (q : Nat → Bool) : Nat → Nat
  | 0 => 0
  | n + 1 => bsN q n ||| (if q n then 2 ^ n else 0)
theorem bsN_lt (q : Nat → Bool) : ∀ n, bsN q n < 2 ^ n
  | 0 => (by decide : (0 : Nat) < 2 ^ 0)
  | n + 1 => by
    have ih := bsN_lt q n
    unfold bsN
    refine Nat.or_lt_two_pow (by rw [Nat.pow_succ]; omega) ?_
    split
    · rw [Nat.pow_succ]
      have := Nat.two_pow_pos n
      omega
    · exact Nat.two_pow_pos _
theorem bsN_bit (q : Nat → Bool) (i : Nat) : ∀ n, (bsN q n).testBit i = (decide (i < n) && q i)
  | 0 => by simp [bsN]
  | n + 1 => by
    unfold bsN
    rw [Nat.testBit_or, bsN_bit q i n]
    by_cases h : q n = true
    · rw [if_pos h, Nat.testBit_two_pow]
      by_cases e : n = i
      · subst e
        simp [h]
      · have : decide (i < n + 1) = decide (i < n) := decide_eq_decide.mpr (by omega)
        rw [this]
        simp [e]
    · rw [if_neg h, Nat.zero_testBit]
      by_cases e : n = i
      · subst e
        simp [h]
      · have : decide (i < n + 1) = decide (i < n) := decide_eq_decide.mpr (by omega)
        rw [this]
        simp
theorem bsN_512 (q : Nat → Bool) {n : Nat} (h : n ≤ 8) : bsN q n < 512 := Nat.lt_of_lt_of_le (bsN_lt q n) (Nat.le_trans (Nat.pow_le_pow_right (by omega) h) (by decide))
theorem sh_1 : ∀ n, n < 8 → (1 : Int32) <<< (nI n &&& 31) = nI (2 ^ n) := by decide +kernel
theorem sh_or (a n : Nat) (hn : n < 8) : nI a ||| ((1 : Int32) <<< (nI n &&& 31)) = nI (a ||| 2 ^ n) := by rw [sh_1 n hn, sp_or]
theorem or_0 (x : Int32) : x ||| 0 = x := by
  apply Int32.toBitVec_inj.mp
  show x.toBitVec ||| 0#32 = x.toBitVec
  simp
set_option maxRecDepth 20000 in
theorem bit_I : ∀ c, c < 256 → ∀ i, i < 8 → ((nI c >>> (nI i &&& 31)) &&& 1) = (if c.testBit i = true then 1 else 0) := by decide +kernel
def gB (A : aPg) (a t : Nat) (b : Nat) : Bool := decide (pRd A a b = t)
def gF (A : aPg) (p c : Nat) (b : Nat) : Bool := decide (pSh A (pF A p) b = c)
def bhN (A : aPg) (a t : Nat) : Nat := bsN (gB A a t) (pL A)
def ftN (A : aPg) (p c : Nat) : Nat := bsN (gF A p c) (pL A)
section
variable {f : zF} {K : Int32 → zF → Prop} {A : aPg}
theorem q_hasLetter_t {l : Nat} (hP : CP f 12 A) (ok : okPg A) (hl : l < pL A) (h : K 1 f) : ci mX2_hasLetter [.ref 12, .int (nI l)] f K := by
  have := ok.2.1
  refine w_X2_hasLetter pg12 ⟨fun c => absurd c (nI_pos (by omega)), fun _ => ⟨fun c => absurd c ?_, fun _ => h⟩⟩
  rw [hP.2.1]
  exact nI_ge hl (by omega)
theorem q_hasLetter_f {x : Int32} (hP : CP f 12 A) (hx : outI x (pL A)) (h : K 0 f) : ci mX2_hasLetter [.ref 12, .int x] f K := by
  refine w_X2_hasLetter pg12 ⟨fun _ => h, fun c => ⟨fun _ => h, fun c2 => (hx.elim c (fun z => c2 ?_)).elim⟩⟩
  rw [hP.2.1]
  exact z
theorem q_hasPlace_t {s p : Nat} (hP : CP f 12 A) (ok : okPg A) (hs : s < 2) (hp : p < pP A) (h : K 1 f) : ci mX2_hasPlace [.ref 12, .int (nI s), .int (nI p)] f K := by
  have := ok.2.2.1
  have h2 : (nI p < 0 → K 0 f) ∧ (¬ nI p < 0 → ((f 12 2 ≤ nI p → K 0 f) ∧ (¬ f 12 2 ≤ nI p → K 1 f))) := by
    refine ⟨fun c => absurd c (nI_pos (by omega)), fun _ => ⟨fun c => absurd c ?_, fun _ => h⟩⟩
    rw [hP.2.2.1]
    exact nI_ge hp (by omega)
  refine w_X2_hasPlace pg12 ⟨fun _ => h2, fun c => ⟨fun c2 => ?_, fun _ => h2⟩⟩
  rcases (show s = 0 ∨ s = 1 by omega) with rfl | rfl
  · exact absurd rfl c
  · exact absurd rfl c2
theorem q_hasPlace_f {x y : Int32} (hP : CP f 12 A) (hx : outI x 2 ∨ outI y (pP A)) (h : K 0 f) : ci mX2_hasPlace [.ref 12, .int x, .int y] f K := by
  have h2 : (x = 0 ∨ x = 1) → (y < 0 → K 0 f) ∧ (¬ y < 0 → ((f 12 2 ≤ y → K 0 f) ∧ (¬ f 12 2 ≤ y → K 1 f))) := by
    intro hs
    refine ⟨fun _ => h, fun c => ⟨fun _ => h, fun c2 => ?_⟩⟩
    rcases hx with (hx | hx) | (hx | hx)
    · rcases hs with rfl | rfl <;> exact absurd hx (by decide)
    · rcases hs with rfl | rfl <;> exact absurd hx (by decide)
    · exact absurd hx c
    · rw [hP.2.2.1] at c2
      exact absurd hx c2
  exact w_X2_hasPlace pg12 ⟨fun c => h2 (Or.inl c), fun _ => ⟨fun _ => h, fun c => h2 (Or.inr c)⟩⟩
theorem q_isThere_t (hP : CP f 12 A) (ok : okPg A) (h0 : 0 < pL A) (h : K 1 f) : ci mX2_isThere [.ref 12] f K := by
  have := ok.2.1
  refine w_X2_isThere pg12 ⟨fun c => absurd c ?_, fun _ => h⟩
  rw [hP.2.1]
  exact nI_nle h0 (by omega)
theorem q_isThere_f (hP : CP f 12 A) (h0 : pL A = 0) (h : K 0 f) : ci mX2_isThere [.ref 12] f K := by
  refine w_X2_isThere pg12 ⟨fun _ => h, fun c => absurd ?_ c⟩
  rw [hP.2.1, h0]
  exact Int32.le_refl _
theorem q_areCells_t {c : Nat} (hc : c < 512) (h : K 1 f) : ci mX6_areCells [.int (nI c)] f K :=
  w_X6_areCells ⟨fun q => absurd q (nI_pos (by omega)), fun _ => ⟨fun q => absurd q (nI_nlt (b := c) (a := 511) (by omega) (by omega)), fun _ => h⟩⟩
theorem outI_512 {x : Int32} {n : Nat} (hn : n + 1 < 2 ^ 31) (hx : outI x (n + 1)) (c : ¬ x < 0) : nI n < x := by
  rcases hx with hx | hx
  · exact absurd hx c
  · exact Int32.lt_of_lt_of_le (nI_lt (by omega) hn) hx
theorem q_areCells_f {x : Int32} (hx : outI x 512) (h : K 0 f) : ci mX6_areCells [.int x] f K :=
  w_X6_areCells ⟨fun _ => h, fun c => ⟨fun _ => h, fun c2 => absurd (outI_512 (n := 511) (by omega) hx c) c2⟩⟩
theorem q_behindToRead {a t : Nat} (hP : CP f 12 A) (ok : okPg A) (ha : a < pL A) (ht : t < 2 ^ 31) (h : K (nI (bhN A a t)) f) : ci mX2_behindToRead [.ref 12, .int (nI a), .int (nI t)] f K := by
  refine w_X2_behindToRead pg12 (fun X hX => ?_)
  have h8 := ok.2.1
  have key : ∀ k n, n + k = pL A → Z X mX2_behindToRead 5 [(0, .ref 12), (1, .int (nI a)), (2, .int (nI t)), (3, .int (nI (bsN (gB A a t) n))), (4, .int (nI n))] [] (zC f) := by
    intro k
    induction k with
    | zero =>
      intro n hn
      have e : n = pL A := by omega
      refine l_X2_behindToRead_5 pg12 hX ⟨fun _ => ?_, fun q => absurd (by rw [hP.2.1, ← hn]; exact Int32.le_refl _) q⟩
      rw [e]
      exact h
    | succ k ih =>
      intro n hn
      refine l_X2_behindToRead_5 pg12 hX ⟨fun q => absurd q (by rw [hP.2.1]; exact nI_ge (by omega) (by omega)), fun _ => ?_⟩
      have hr := pRd_lt (A := A) (b := n) ha
      have ih := ih (n + 1) (by omega)
      rw [nI_succ, bsN] at ih
      refine q_readOf hP ok ha (by omega) ⟨fun q => ?_, fun q => ?_⟩
      · rw [if_neg (by unfold gB; rw [decide_eq_true_eq]; exact fun z => q (by rw [z])), Nat.or_zero] at ih
        exact ih
      · rw [if_pos (by unfold gB; rw [decide_eq_true_eq]; exact (nI_eq (by omega) ht).mp q), ← sh_or _ _ (by omega)] at ih
        exact ih
  exact key (pL A) 0 (by omega)
theorem m_behindBy {a t : Nat} (hM : MP (f 56) 0 A) (ok : okPg A) (ha : a < pL A) (ht : t < 2 ^ 31) (h : ∀ f', nz f f' → K (nI (bhN A a t)) f') : ci mX7_behindBy [.ref 52, .int (nI a), .int (nI t)] f K := by
  refine w_X7_behindBy (fun X hX => ?_)
  have h8 := ok.2.1
  have key : ∀ k n g, n + k = pL A → nz f g → Z X mX7_behindBy 5 [(0, .ref 52), (1, .int (nI a)), (2, .int (nI t)), (3, .int (nI (bsN (gB A a t) n))), (4, .int (nI n))] [] (zC g) := by
    intro k
    induction k with
    | zero =>
      intro n g hn hg
      have e : n = pL A := by omega
      refine l_X7_behindBy_5 hX ⟨fun _ => ?_, fun q => absurd (by rw [(MP_nz hg hM).2.1, ← hn]; exact Int32.le_refl _) q⟩
      rw [e]
      exact h g hg
    | succ k ih =>
      intro n g hn hg
      have hMg := MP_nz hg hM
      refine l_X7_behindBy_5 hX ⟨fun q => absurd q (by rw [show g 56 1 = _ from hMg.2.1]; exact nI_ge (by omega) (by omega)), fun _ => ?_⟩
      have hr := pRd_lt (A := A) (b := n) ha
      refine m_readBy hMg ok ha (by omega) (fun g2 hg2 z1 e1 => ?_)
      have ih := ih (n + 1) g2 (by omega) (nz_trans hg hg2)
      rw [nI_succ, bsN] at ih
      rw [e1]
      by_cases q : pRd A a n = t
      · rw [if_pos (by unfold gB; rw [decide_eq_true_eq]; exact q), ← sh_or _ _ (by omega)] at ih
        rw [if_pos (by rw [q])]
        exact ih
      · rw [if_neg (by unfold gB; rw [decide_eq_true_eq]; exact q), Nat.or_zero] at ih
        rw [if_neg (fun z => q ((nI_eq (by omega) ht).mp z)), or_0]
        exact ih
  exact key (pL A) 0 f (by omega) (nz_refl f)
theorem q_fitting {p c : Nat} (hP : CP f 12 A) (ok : okPg A) (hp : p < pP A) (hc : c < 512) (h : K (nI (ftN A p c)) f) : ci mX2_fitting [.ref 12, .int (nI p), .int (nI c)] f K := by
  refine w_X2_fitting pg12 (fun X hX => ?_)
  have h8 := ok.2.1
  have key : ∀ k n, n + k = pL A → Z X mX2_fitting 5 [(0, .ref 12), (1, .int (nI p)), (2, .int (nI c)), (3, .int (nI (bsN (gF A p c) n))), (4, .int (nI n))] [] (zC f) := by
    intro k
    induction k with
    | zero =>
      intro n hn
      have e : n = pL A := by omega
      refine l_X2_fitting_5 pg12 hX ⟨fun _ => ?_, fun q => absurd (by rw [hP.2.1, ← hn]; exact Int32.le_refl _) q⟩
      rw [e]
      exact h
    | succ k ih =>
      intro n hn
      refine l_X2_fitting_5 pg12 hX ⟨fun q => absurd q (by rw [hP.2.1]; exact nI_ge (by omega) (by omega)), fun _ => ?_⟩
      have hF := (ok.2.2.2.2 p hp).1
      have hr := pSh_lt ok (b := n) hF (by omega)
      have ih := ih (n + 1) (by omega)
      rw [nI_succ, bsN] at ih
      refine q_letterAt (s := 0) hP ok (by omega) hp (q_shownOf hP ok (by exact hF) (by omega) ⟨fun q => ?_, fun q => ?_⟩)
      · rw [if_neg (by unfold gF; rw [decide_eq_true_eq]; exact fun z => q (by rw [← z]; rfl)), Nat.or_zero] at ih
        exact ih
      · rw [if_pos (by unfold gF; rw [decide_eq_true_eq]; exact (nI_eq (by omega) (by omega)).mp q), ← sh_or _ _ (by omega)] at ih
        exact ih
  exact key (pL A) 0 (by omega)
theorem m_fits_loop {p c : Nat} (hM : MP (f 56) 0 A) (ok : okPg A) (hp : p < pP A) (hc : c < 512) {X : zX} (hX : kR X (zRi K)) (h : K (nI (ftN A p c)) f) : Z X mX7_fits 33 [(0, .ref 52), (1, .int (nI p)), (2, .int (nI c)), (3, .int 0), (4, .int 0)] [] (zC f) := by
  have h8 := ok.2.1
  have key : ∀ k n, n + k = pL A → Z X mX7_fits 33 [(0, .ref 52), (1, .int (nI p)), (2, .int (nI c)), (3, .int (nI (bsN (gF A p c) n))), (4, .int (nI n))] [] (zC f) := by
    intro k
    induction k with
    | zero =>
      intro n hn
      have e : n = pL A := by omega
      refine l_X7_fits_33 hX ⟨fun _ => ?_, fun q => absurd (by rw [hM.2.1, ← hn]; exact Int32.le_refl _) q⟩
      rw [e]
      exact h
    | succ k ih =>
      intro n hn
      refine l_X7_fits_33 hX ⟨fun q => absurd q (by rw [show f 56 1 = _ from hM.2.1]; exact nI_ge (by omega) (by omega)), fun _ => ?_⟩
      have hF := (ok.2.2.2.2 p hp).1
      have hr := pSh_lt ok (b := n) hF (by omega)
      have ih := ih (n + 1) (by omega)
      rw [nI_succ, bsN] at ih
      refine m_on (s := 0) hM ok (by omega) hp (m_cellsOf hM ok (by exact hF) (m_throughOf hM ok (by omega) (fun z1 e1 => ?_)))
      rw [sp_or, show (pE A (pS A 0 p) ||| pT A n) = pSh A (pF A p) n from rfl] at e1
      rw [e1]
      by_cases q : pSh A (pF A p) n = c
      · rw [if_pos (by unfold gF; rw [decide_eq_true_eq]; exact q), ← sh_or _ _ (by omega)] at ih
        rw [if_pos (by rw [q])]
        exact ih
      · rw [if_neg (by unfold gF; rw [decide_eq_true_eq]; exact q), Nat.or_zero] at ih
        rw [if_neg (fun z => q ((nI_eq (by omega) (by omega)).mp z)), or_0]
        exact ih
  exact key (pL A) 0 (by omega)
end
