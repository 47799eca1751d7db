/-! ===== fewest anew, harm, places left ===== -/
theorem m1_ne (n : Nat) (h : n < 2 ^ 30) : ¬ nI n = -1000000 := fun q => by
  have := congrArg Int32.toInt q
  rw [nI_toInt (by omega), show (-1000000 : Int32).toInt = -1000000 from rfl] at this
  omega
/-- the fewest of a place, 3 for none -/
def cA (A : aPg) (p a : Nat) : Nat := if a = pF A p then 0 else 1
def cB (A : aPg) (p t a : Nat) : Nat := if (bhN A a t).testBit (pB A (pP A - 1 - p)) = true then 0 else 1
def fwN (A : aPg) (p t : Nat) : Nat → Nat
  | 0 => 3
  | a + 1 => if bhN A a t = 0 then fwN A p t a else min (fwN A p t a) (cA A p a + cB A p t a)
theorem fwN_le (A : aPg) (p t : Nat) : ∀ n, fwN A p t n ≤ 3
  | 0 => Nat.le_refl _
  | n + 1 => by
    have := fwN_le A p t n
    unfold fwN
    split
    · exact this
    · exact Nat.le_trans (Nat.min_le_left _ _) this
theorem cA_le (A : aPg) (p a : Nat) : cA A p a ≤ 1 := by unfold cA; split <;> omega
theorem cB_le (A : aPg) (p t a : Nat) : cB A p t a ≤ 1 := by unfold cB; split <;> omega
/-- fewest, as the class says it -/
def fwI (n : Nat) : Int32 := if n = 3 then -1000000 else nI n
section
variable {f : zF} {K : Int32 → zF → Prop} {A : aPg}
theorem q_hasBit {c i : Nat} (hc : c < 256) (hi : i < 8) (h : K (if c.testBit i = true then 1 else 0) f) : ci mX6_hasBit [.int (nI c), .int (nI i)] f K := by
  have e := bit_I c hc i hi
  refine w_X6_hasBit ⟨fun q => ?_, fun q => ?_⟩
  · rw [if_neg (fun z => q (by rw [e, if_pos z]))] at h
    exact h
  · by_cases z : c.testBit i = true
    · rw [if_pos z] at h
      exact h
    · rw [e, if_neg z] at q
      exact absurd q (by decide)
theorem bhN_lt {a t : Nat} (ok : okPg A) : bhN A a t < 256 := Nat.lt_of_lt_of_le (bsN_lt _ _) (Nat.le_trans (Nat.pow_le_pow_right (by omega) ok.2.1) (by decide))
theorem q_fewestAnew {p t : Nat} (hP : CP f 12 A) (ok : okPg A) (hp : p < pP A) (ht : t < 2 ^ 31) (h : K (fwI (fwN A p t (pL A))) f) : ci mX2_fewestAnew [.ref 12, .int (nI p), .int (nI t)] f K := by
  refine w_X2_fewestAnew pg12 (fun X hX => ?_)
  have h8 := ok.2.1
  have hB := (ok.2.2.2.2 (pP A - 1 - p) (by omega)).2
  have key : ∀ k n, n + k = pL A → Z X mX2_fewestAnew 6 [(0, .ref 12), (1, .int (nI p)), (2, .int (nI t)), (3, .int (fwI (fwN A p t n))), (4, .int (nI n))] [] (zC f) := by
    intro k
    induction k with
    | zero =>
      intro n hn
      have e : n = pL A := by omega
      refine l_X2_fewestAnew_6 pg12 hX ⟨fun _ => ?_, fun q => absurd (by rw [hP.2.1, ← hn]; exact Int32.le_refl _) q⟩
      rw [e]
      exact h
    | succ k ih =>
      intro n hn
      refine l_X2_fewestAnew_6 pg12 hX ⟨fun q => absurd q (by rw [hP.2.1]; exact nI_ge (by omega) (by omega)), fun _ => ?_⟩
      have ih := ih (n + 1) (by omega)
      rw [nI_succ, fwN] at ih
      have hbl := bhN_lt (A := A) (a := n) (t := t) ok
      refine q_behindToRead hP ok (by omega) ht ⟨fun q => ?_, fun q => ?_⟩
      · rw [if_pos ((nI_eq (b := 0) (by omega) (by omega)).mp q)] at ih
        exact ih
      · rw [if_neg (fun z => q (by rw [z]; rfl))] at ih
        refine q_letterBehind (s := 0) hP ok (by omega) hp (q_hasBit hbl (by show pB A (pP A - 1 - p) < 8; omega) (fun z1 e1 => q_letterAt (s := 0) hP ok (by omega) hp (fun z2 e2 => ?_)))
        have e1 : z1 = nI (1 - cB A p t n) := by
          rw [e1]
          unfold cB
          show (if (if (bhN A n t).testBit (pB A (pP A - 1 - p)) = true then (1 : Int32) else 0) = 0 then (0 : Int32) else 1) = _
          by_cases z : (bhN A n t).testBit (pB A (pP A - 1 - p)) = true
          · rw [if_pos z, if_pos z]; rfl
          · rw [if_neg z, if_neg z]; rfl
        have e2 : z2 = nI (1 - cA A p n) := by
          rw [e2]
          have hF := (ok.2.2.2.2 p hp).1
          unfold cA
          show (if nI n = nI (pF A p) then (1 : Int32) else 0) = _
          by_cases z : n = pF A p
          · rw [if_pos z, if_pos (by rw [z])]; rfl
          · rw [if_neg z, if_neg (fun y => z ((nI_eq (by omega) (by omega)).mp y))]; rfl
        have hA1 := cA_le A p n
        have hB1 := cB_le A p t n
        have e3 : 2 - z1 - z2 = nI (cA A p n + cB A p t n) := by
          rw [e1, e2, show (2 : Int32) = nI 2 from rfl, pk_sub (by omega), pk_sub (by omega)]
          congr 1
          omega
        rw [e3]
        have hw := fwN_le A p t n
        refine ⟨fun q3 => fun z3 e4 => ?_, fun q3 => ?_⟩
        · have n3 : fwN A p t n ≠ 3 := fun z => q3 (by rw [z]; rfl)
          have e5 : z3 = fwI (min (fwN A p t n) (cA A p n + cB A p t n)) := by
            have x1 : fwI (fwN A p t n) = nI (fwN A p t n) := if_neg n3
            have x2 : fwI (min (fwN A p t n) (cA A p n + cB A p t n)) = nI (min (fwN A p t n) (cA A p n + cB A p t n)) := if_neg (by omega)
            rw [e4, x1, x2]
            by_cases z : cA A p n + cB A p t n < fwN A p t n
            · rw [if_pos (nI_lt z (by omega)), Nat.min_eq_right (by omega)]
            · rw [if_neg (nI_nlt (by omega) (by omega)), Nat.min_eq_left (by omega)]
          rw [e5]
          exact ih
        · have n3 : fwN A p t n = 3 := by
            unfold fwI at q3
            by_cases z : fwN A p t n = 3
            · exact z
            · rw [if_neg z] at q3
              exact absurd q3 (m1_ne _ (by omega))
          have e5 : nI (cA A p n + cB A p t n) = fwI (min (fwN A p t n) (cA A p n + cB A p t n)) := by
            unfold fwI
            rw [if_neg (by omega), Nat.min_eq_right (by omega)]
          rw [e5]
          exact ih
  exact key (pL A) 0 (by omega)
/-- the reference's inner count -/
def inN (A : aPg) (p t a m n : Nat) : Nat := if bsN (gB A a t) n = 0 then m else min m (cA A p a + (if (bsN (gB A a t) n).testBit (pB A (pP A - 1 - p)) = true then 0 else 1))
theorem inN_step {p t a m n : Nat} (hb : pB A (pP A - 1 - p) < pL A) : inN A p t a m (n + 1) = (if inN A p t a m n ≤ cA A p a + (if n = pB A (pP A - 1 - p) then 0 else 1) then inN A p t a m n else if pRd A a n = t then cA A p a + (if n = pB A (pP A - 1 - p) then 0 else 1) else inN A p t a m n) := by
  have hA1 := cA_le A p a
  by_cases g : gB A a t n = true
  · have g2 : pRd A a n = t := by unfold gB at g; exact of_decide_eq_true g
    rw [if_pos g2]
    have h1 : bsN (gB A a t) (n + 1) ≠ 0 := by
      intro z
      have := bsN_bit (gB A a t) n (n + 1)
      rw [z, g] at this
      simp at this
    have h2 : (bsN (gB A a t) (n + 1)).testBit (pB A (pP A - 1 - p)) = ((bsN (gB A a t) n).testBit (pB A (pP A - 1 - p)) || decide (n = pB A (pP A - 1 - p))) := by
      rw [bsN_bit, bsN_bit]
      by_cases e : n = pB A (pP A - 1 - p)
      · rw [← e]
        simp [g]
      · have : decide (pB A (pP A - 1 - p) < n + 1) = decide (pB A (pP A - 1 - p) < n) := decide_eq_decide.mpr (by omega)
        rw [this]
        simp [e]
    unfold inN
    rw [if_neg h1, h2]
    by_cases z0 : bsN (gB A a t) n = 0
    · rw [if_pos z0, z0, Nat.zero_testBit]
      by_cases e : n = pB A (pP A - 1 - p)
      · simp only [e, decide_true, Bool.or_true, if_true]
        split <;> omega
      · simp only [e, decide_false, Bool.or_false, if_false, Bool.false_eq_true]
        split <;> omega
    · rw [if_neg z0]
      by_cases e : n = pB A (pP A - 1 - p)
      · simp only [e, decide_true, Bool.or_true, if_true]
        split <;> split <;> omega
      · simp only [e, decide_false, Bool.or_false, if_false]
        split <;> split <;> omega
  · have g2 : ¬ pRd A a n = t := by unfold gB at g; exact fun z => g (decide_eq_true z)
    rw [if_neg g2]
    have e : bsN (gB A a t) (n + 1) = bsN (gB A a t) n := by
      rw [bsN, if_neg g, Nat.or_zero]
    have : inN A p t a m (n + 1) = inN A p t a m n := by
      unfold inN
      rw [e]
    rw [this]
    exact (ite_self _).symm
theorem inN_le {p t a m n : Nat} : inN A p t a m n ≤ m := by
  unfold inN
  split
  · exact Nat.le_refl _
  · exact Nat.min_le_left _ _
theorem m_anewAt {p t : Nat} (hM : MP (f 56) 0 A) (ok : okPg A) (hp : p < pP A) (ht : t < 2 ^ 31) (h : ∀ f', nz f f' → K (nI (fwN A p t (pL A))) f') : ci mX7_anewAt [.ref 52, .int (nI p), .int (nI t)] f K := by
  refine w_X7_anewAt (fun X hX => ?_)
  have h8 := ok.2.1
  have hB := (ok.2.2.2.2 (pP A - 1 - p) (by omega)).2
  have hF := (ok.2.2.2.2 p hp).1
  have key : ∀ k n g, n + k = pL A → nz f g → Z X mX7_anewAt 5 [(0, .ref 52), (1, .int (nI p)), (2, .int (nI t)), (3, .int (nI (fwN A p t n))), (4, .int (nI n))] [] (zC g) := by
    intro k
    induction k with
    | zero =>
      intro n g hn hg
      have e : n = pL A := by omega
      refine l_X7_anewAt_5 hX ⟨fun _ => ?_, fun q => absurd (by rw [(MP_nz hg hM).2.1, ← hn]; exact Int32.le_refl _) q⟩
      rw [e]
      exact h g hg
    | succ k ih =>
      intro n g hn hg
      have hMg := MP_nz hg hM
      refine l_X7_anewAt_5 hX ⟨fun q => absurd q (by rw [show g 56 1 = _ from hMg.2.1]; exact nI_ge (by omega) (by omega)), fun _ => ?_⟩
      have key2 : ∀ j b g, b + j = pL A → nz f g → Z X mX7_anewAt 19 [(0, .ref 52), (1, .int (nI p)), (2, .int (nI t)), (3, .int (nI (inN A p t n (fwN A p t n) b))), (4, .int (nI n)), (5, .int (nI b))] [] (zC g) := by
        intro j
        induction j with
        | zero =>
          intro b g hb hg
          have e : b = pL A := by omega
          refine l_X7_anewAt_19 hX ⟨fun _ => ?_, fun q => absurd (by rw [(MP_nz hg hM).2.1, ← hb]; exact Int32.le_refl _) q⟩
          have ih := ih (n + 1) g (by omega) hg
          rw [nI_succ] at ih
          have e2 : inN A p t n (fwN A p t n) b = fwN A p t (n + 1) := by
            rw [e]
            rfl
          rw [e2]
          exact ih
        | succ j ihj =>
          intro b g hb hg
          have hMg := MP_nz hg hM
          refine l_X7_anewAt_19 hX ⟨fun q => absurd q (by rw [show g 56 1 = _ from hMg.2.1]; exact nI_ge (by omega) (by omega)), fun _ => ?_⟩
          refine m_on (s := 0) hMg ok (by omega) hp (fun z1 e1 => m_behindOf (s := 0) hMg ok (by omega) hp (fun z2 e2 => ?_))
          have e1 : z1 = nI (cA A p n) := by
            rw [e1]
            unfold cA
            show (if nI n = nI (pF A p) then (0 : Int32) else 1) = _
            by_cases z : n = pF A p
            · rw [if_pos z, if_pos (by rw [z])]; rfl
            · rw [if_neg z, if_neg (fun y => z ((nI_eq (by omega) (by omega)).mp y))]; rfl
          have e2 : z2 = nI (if b = pB A (pP A - 1 - p) then 0 else 1) := by
            rw [e2]
            show (if nI b = nI (pB A (pP A - 1 - p)) then (0 : Int32) else 1) = _
            by_cases z : b = pB A (pP A - 1 - p)
            · rw [if_pos z, if_pos (by rw [z])]; rfl
            · rw [if_neg z, if_neg (fun y => z ((nI_eq (by omega) (by omega)).mp y))]; rfl
          have hcA := cA_le A p n
          have hm := fwN_le A p t n
          have hi := inN_le (A := A) (p := p) (t := t) (a := n) (m := fwN A p t n) (n := b)
          have hs := inN_step (A := A) (p := p) (t := t) (a := n) (m := fwN A p t n) (n := b) hB
          have hc : (if b = pB A (pP A - 1 - p) then 0 else 1) ≤ 1 := by split <;> omega
          rw [e1, e2, nI_add]
          generalize (if b = pB A (pP A - 1 - p) then 0 else 1) = cb at hs hc
          refine ⟨fun q => ?_, fun q => ?_⟩
          · have ihj := ihj (b + 1) g (by omega) hg
            rw [hs, if_pos ((nI_leI (by omega) (by omega)).mp q), nI_succ] at ihj
            exact ihj
          · refine m_readBy hMg ok (by omega) (by omega) (fun g2 hg2 z3 e3 => ?_)
            have ihj := ihj (b + 1) g2 (by omega) (nz_trans hg hg2)
            have hr := pRd_lt (A := A) (a := n) (b := b) (by omega)
            rw [hs, if_neg (fun z => q (nI_le z (by omega))), nI_succ] at ihj
            rw [e3]
            by_cases z : pRd A n b = t
            · rw [if_pos z] at ihj
              rw [if_pos (by rw [z])]
              exact ihj
            · rw [if_neg z] at ihj
              rw [if_neg (fun y => z ((nI_eq (by omega) ht).mp y))]
              exact ihj
      have e0 : inN A p t n (fwN A p t n) 0 = fwN A p t n := rfl
      have := key2 (pL A) 0 g (by omega) hg
      rw [e0] at this
      exact this
  exact key (pL A) 0 f (by omega) (nz_refl f)
end
/-- counted below n -/
def cnN (q : Nat → Bool) : Nat → Nat
  | 0 => 0
  | n + 1 => cnN q n + (if q n then 1 else 0)
theorem cnN_le (q : Nat → Bool) : ∀ n, cnN q n ≤ n
  | 0 => Nat.le_refl _
  | n + 1 => by
    have := cnN_le q n
    unfold cnN
    split <;> omega
