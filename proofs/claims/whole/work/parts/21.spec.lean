/-! ===== the page as numbers ===== -/
theorem sp_or (a b : Nat) : nI a ||| nI b = nI (a ||| b) := by
  apply Int32.toBitVec_inj.mp
  show BitVec.ofNat 32 a ||| BitVec.ofNat 32 b = BitVec.ofNat 32 (a ||| b)
  simp
theorem sp_xor (a b : Nat) : nI a ^^^ nI b = nI (a ^^^ b) := by
  apply Int32.toBitVec_inj.mp
  show BitVec.ofNat 32 a ^^^ BitVec.ofNat 32 b = BitVec.ofNat 32 (a ^^^ b)
  simp
theorem sp_or_lt {a b : Nat} (ha : a < 512) (hb : b < 512) : a ||| b < 512 := Nat.or_lt_two_pow (n := 9) ha hb
theorem sp_xor_lt {a b : Nat} (ha : a < 512) (hb : b < 512) : a ^^^ b < 512 := Nat.xor_lt_two_pow (n := 9) ha hb
/-- damp, letters, places; kinds, cells; front, back -/
abbrev aPg : Type := Nat × Nat × Nat × (Nat → Nat) × (Nat → Nat) × (Nat → Nat) × (Nat → Nat)
abbrev pD (A : aPg) : Nat := A.1
abbrev pL (A : aPg) : Nat := A.2.1
abbrev pP (A : aPg) : Nat := A.2.2.1
abbrev pK (A : aPg) : Nat → Nat := A.2.2.2.1
abbrev pE (A : aPg) : Nat → Nat := A.2.2.2.2.1
abbrev pF (A : aPg) : Nat → Nat := A.2.2.2.2.2.1
abbrev pB (A : aPg) : Nat → Nat := A.2.2.2.2.2.2
def popN (c : Nat) : Nat := c % 2 + c / 2 % 2 + c / 4 % 2 + c / 8 % 2 + c / 16 % 2 + c / 32 % 2 + c / 64 % 2 + c / 128 % 2 + c / 256 % 2
theorem popN_le (c : Nat) : popN c ≤ 9 := by unfold popN; omega
def turnN (c : Nat) : Nat := ((c &&& 73) * 4) ||| (c &&& 146) ||| ((c &&& 292) / 4)
def thrN (k c : Nat) : Nat := if k = 3 then turnN c % 64 else if k = 4 then c else if k = 5 then 0 else turnN c
set_option maxRecDepth 20000 in
theorem turnN_lt : ∀ c, c < 512 → turnN c < 512 := by decide +kernel
set_option maxRecDepth 20000 in
theorem turnN_I : ∀ c, c < 512 → (((nI c &&& 73) <<< ((2 : Int32) &&& 31)) ||| (nI c &&& 146)) ||| ((nI c &&& 292) >>> ((2 : Int32) &&& 31)) = nI (turnN c) := by decide +kernel
set_option maxRecDepth 20000 in
theorem mask_64 : ∀ c, c < 512 → nI c &&& 63 = nI (c % 64) := by decide +kernel
set_option maxRecDepth 20000 in
theorem mask_449 : ∀ c, c < 512 → nI c &&& (-449) = nI (c % 64) := by decide +kernel
theorem thrN_lt {k c : Nat} (h : c < 512) : thrN k c < 512 := by
  unfold thrN
  have := turnN_lt c h
  split
  · omega
  · split
    · exact h
    · split <;> omega
def bcI (p1 : Int32) : Int32 :=
  let z1 := ((Int32.toUInt32 p1 >>> (Int32.toUInt32 1 &&& Int32.toUInt32 31)).toInt32)
  let z2 := ((Int32.toUInt32 (p1 - (z1 &&& 1431655765)) >>> (Int32.toUInt32 2 &&& Int32.toUInt32 31)).toInt32)
  let z3 := (((p1 - (z1 &&& 1431655765)) &&& 858993459) + (z2 &&& 858993459))
  let z4 := ((Int32.toUInt32 z3 >>> (Int32.toUInt32 4 &&& Int32.toUInt32 31)).toInt32)
  let z5 := ((Int32.toUInt32 ((z3 + z4) &&& 252645135) >>> (Int32.toUInt32 8 &&& Int32.toUInt32 31)).toInt32)
  let z6 := ((Int32.toUInt32 (((z3 + z4) &&& 252645135) + z5) >>> (Int32.toUInt32 16 &&& Int32.toUInt32 31)).toInt32)
  (((((z3 + z4) &&& 252645135) + z5) + z6) &&& 63)
set_option maxRecDepth 20000 in
theorem bcI_eq : ∀ c, c < 512 → bcI (nI c) = nI (popN c) := by decide +kernel
theorem j_bitCount {f : zF} {K : Int32 → zF → Prop} {c : Nat} (hc : c < 512) (h : K (nI (popN c)) f) : ci mJ6_bitCount_0f7a4 [.int (nI c)] f K := by
  refine w_J6_bitCount_0f7a4 (fun z1 e1 z2 e2 z3 e3 z4 e4 z5 e5 z6 e6 z7 e7 => ?_)
  have e : z7 = bcI (nI c) := by rw [e7, e6, e5, e4, e3, e2, e1]; rfl
  rw [e, bcI_eq c hc]
  exact h
def btI (x : Int32) (n : Nat) : Int32 := match n with
  | 0 => 0
  | n + 1 => btI x n + ((x >>> (nI n &&& 31)) &&& 1)
set_option maxRecDepth 20000 in
theorem btI_eq : ∀ c, c < 512 → btI (nI c) 9 = nI (popN c) := by decide +kernel
theorem m_bits {f : zF} {K : Int32 → zF → Prop} {c : Nat} (hc : c < 512) (h : K (nI (popN c)) f) : ci mX7_bits [.int (nI c)] f K := by
  refine w_X7_bits (fun X hX => ?_)
  have key : ∀ k n, n + k = 9 → Z X mX7_bits 4 [(0, .int (nI c)), (1, .int (btI (nI c) n)), (2, .int (nI n))] [] (zC f) := by
    intro k
    induction k with
    | zero =>
      intro n hn
      have e : n = 9 := by omega
      subst e
      refine l_X7_bits_4 hX ⟨fun _ => ?_, fun q => absurd (Int32.le_refl _) q⟩
      rw [btI_eq c hc]
      exact h
    | succ k ih =>
      intro n hn
      refine l_X7_bits_4 hX ⟨fun q => absurd q (nI_ge (a := n) (b := 9) (by omega) (by omega)), fun _ => ?_⟩
      have h2 := ih (n + 1) (by omega)
      rw [nI_succ] at h2
      exact h2
  exact key 9 0 rfl
def okPg (A : aPg) : Prop := pD A ≤ 9 ∧ pL A ≤ 8 ∧ pP A ≤ 9 ∧ (∀ l, l < pL A → 1 ≤ pK A l ∧ pK A l ≤ 5 ∧ pE A l < 512) ∧ ∀ p, p < pP A → pF A p < pL A ∧ pB A p < pL A
/-- the class's page c holds A -/
def CP (f : zF) (c : Nat) (A : aPg) : Prop := f c 0 = nI (pD A) ∧ f c 1 = nI (pL A) ∧ f c 2 = nI (pP A) ∧ (∀ l, l < pL A → f (c + 1) l = nI (pE A l) ∧ f (c + 2) l = nI (pK A l) ∧ f (c + 3) l = nI (thrN (pK A l) (pE A l))) ∧ ∀ p, p < pP A → f (c + 4) p = nI (pF A p) ∧ f (c + 5) p = nI (pB A p)
/-- the reference's row holds A from b on -/
def MP (g : Nat → Int32) (b : Nat) (A : aPg) : Prop := g b = nI (pD A) ∧ g (b + 1) = nI (pL A) ∧ g (b + 2) = nI (pP A) ∧ (∀ l, l < pL A → g (b + (3 + 2 * l)) = nI (pK A l) ∧ g (b + (4 + 2 * l)) = nI (pE A l)) ∧ ∀ p, p < pP A → g (b + (19 + p)) = nI (pF A p) ∧ g (b + (28 + p)) = nI (pB A p)
def pS (A : aPg) (s p : Nat) : Nat := if s = 0 then pF A p else pB A p
def pT (A : aPg) (l : Nat) : Nat := thrN (pK A l) (pE A l)
def pSh (A : aPg) (a b : Nat) : Nat := pE A a ||| pT A b
theorem pS_lt {A : aPg} (ok : okPg A) {s p : Nat} (hp : p < pP A) : pS A s p < pL A := by
  unfold pS
  have := ok.2.2.2.2 p hp
  split
  · exact this.1
  · exact this.2
theorem pE_lt {A : aPg} (ok : okPg A) {l : Nat} (hl : l < pL A) : pE A l < 512 := (ok.2.2.2.1 l hl).2.2
theorem pT_lt {A : aPg} (ok : okPg A) {l : Nat} (hl : l < pL A) : pT A l < 512 := thrN_lt (pE_lt ok hl)
theorem pSh_lt {A : aPg} (ok : okPg A) {a b : Nat} (ha : a < pL A) (hb : b < pL A) : pSh A a b < 512 := sp_or_lt (pE_lt ok ha) (pT_lt ok hb)
/-- the first of the nearest -/
def nrD (d : Nat → Nat) : Nat → Nat
  | 0 => 0
  | n + 1 => if n = 0 then 0 else if d n < d (nrD d n) then n else nrD d n
def ctD (d : Nat → Nat) (m : Nat) : Nat → Nat
  | 0 => 0
  | n + 1 => ctD d m n + (if d n = m then 1 else 0)
theorem nrD_lt (d : Nat → Nat) : ∀ n, 0 < n → nrD d n < n
  | 0, h => absurd h (by omega)
  | n + 1, _ => by
    unfold nrD
    split
    · omega
    · split
      · omega
      · have := nrD_lt d n (by omega)
        omega
theorem nrD_min (d : Nat → Nat) : ∀ n l, l < n → d (nrD d n) ≤ d l
  | 0, l, h => absurd h (by omega)
  | n + 1, l, h => by
    unfold nrD
    by_cases h0 : n = 0
    · have : l = 0 := by omega
      subst this
      rw [if_pos h0]
      exact Nat.le_refl _
    · rw [if_neg h0]
      by_cases hl : l = n
      · subst hl
        split <;> omega
      · have ih := nrD_min d n l (by omega)
        split <;> omega
theorem ctD_le (d : Nat → Nat) (m : Nat) : ∀ n, ctD d m n ≤ n
  | 0 => Nat.le_refl _
  | n + 1 => by
    have := ctD_le d m n
    unfold ctD
    split <;> omega
theorem ctD_zero (d : Nat → Nat) (m : Nat) : ∀ n, (∀ l, l < n → m < d l) → ctD d m n = 0
  | 0, _ => rfl
  | n + 1, h => by
    unfold ctD
    rw [ctD_zero d m n (fun l hl => h l (by omega)), if_neg (by have := h n (by omega); omega)]
def pOf (A : aPg) (s l : Nat) : Nat := popN (pE A l ^^^ s)
def pNr (A : aPg) (s : Nat) : Nat := nrD (pOf A s) (pL A)
def pLo (A : aPg) (s : Nat) : Nat := pOf A s (pNr A s)
def pCt (A : aPg) (s : Nat) : Nat := ctD (pOf A s) (pLo A s) (pL A)
theorem pOf_le (A : aPg) (s l : Nat) : pOf A s l ≤ 9 := popN_le _
theorem pNr_lt {A : aPg} {s : Nat} (h : 0 < pL A) : pNr A s < pL A := nrD_lt _ _ h
theorem pNr_lt8 {A : aPg} (ok : okPg A) (s : Nat) : pNr A s < 8 := by
  rcases Nat.eq_zero_or_pos (pL A) with h | h
  · unfold pNr
    rw [h]
    exact (by decide : (0 : Nat) < 8)
  · have h1 := pNr_lt (s := s) h
    have h2 := ok.2.1
    omega
