/-! ===== words, names, numbers ===== -/
def wfL (β : Nat → Nat) (N : Nat) (L : Lx) : Prop := L.1 ≤ 5 ∧ L.2.1 ≤ L.2.2 ∧ L.2.2 ≤ N ∧ (L.1 = 1 → ∀ j, L.2.1 ≤ j → j < L.2.2 → soN (β j) = 1) ∧ (L.1 = 2 → L.2.2 - L.2.1 ≤ 3 ∧ ∀ j, L.2.1 ≤ j → j < L.2.2 → soN (β j) = 2)
theorem wf_tk {β : Nat → Nat} {N i : Nat} (hi : i ≤ N) : wfL β N (tkN β N i) := by
  have h6 := ruN_le β 6 (N - i) i
  have h6e := ruN_end β 6 (N - i) i
  unfold tkN
  generalize hs : ruN β 6 (N - i) i = s at h6 h6e
  unfold tkAt
  by_cases q : s < N
  · rw [if_pos q]
    have n6 := h6e (by omega)
    have so := soN_le (β s)
    by_cases q1 : soN (β s) = 1
    · rw [if_pos q1]
      have r := ruN_le β 1 (N - s) s
      refine ⟨by show 1 ≤ 5; omega, r.1, by show ruN β 1 (N - s) s ≤ N; omega, fun _ j h1 h2 => ruN_in β 1 (N - s) s j h1 h2, fun z => absurd z (by show ¬ 1 = 2; omega)⟩
    · rw [if_neg q1]
      by_cases q2 : soN (β s) = 2
      · rw [if_pos q2]
        have r := ruN_le β 2 (N - s) s
        by_cases q3 : 3 < ruN β 2 (N - s) s - s
        · rw [if_pos q3]
          exact ⟨by show 5 ≤ 5; omega, r.1, by show ruN β 2 (N - s) s ≤ N; omega, fun z => absurd z (by show ¬ 5 = 1; omega), fun z => absurd z (by show ¬ 5 = 2; omega)⟩
        · rw [if_neg q3]
          exact ⟨by show 2 ≤ 5; omega, r.1, by show ruN β 2 (N - s) s ≤ N; omega, fun z => absurd z (by show ¬ 2 = 1; omega), fun _ => ⟨by show ruN β 2 (N - s) s - s ≤ 3; omega, fun j h1 h2 => ruN_in β 2 (N - s) s j h1 h2⟩⟩
      · rw [if_neg q2]
        exact ⟨by show soN (β s) ≤ 5; omega, by show s ≤ s + 1; omega, by show s + 1 ≤ N; omega, fun z => absurd z q1, fun z => absurd z q2⟩
  · rw [if_neg q]
    exact ⟨by show 0 ≤ 5; omega, Nat.le_refl _, by show s ≤ N; omega, fun z => absurd z (by show ¬ 0 = 1; omega), fun z => absurd z (by show ¬ 0 = 2; omega)⟩
def wLn (w : Nat) : Nat := zLen.getD w 0
def wbN (w p : Nat) : Nat := ((zByt.getD w []).getD p 0).toNatClampNeg
theorem wLn_le : ∀ w, w < 8 → 1 ≤ wLn w ∧ wLn w ≤ 6 := by decide +kernel
theorem wbN_in : ∀ w, w < 8 → ∀ p, p < wLn w → 97 ≤ wbN w p ∧ wbN w p ≤ 122 := by decide +kernel
theorem ch_eq : ∀ w, w < 8 → ∀ p, p < wLn w → ((Int32.toUInt32 (((zByt.getD w []).getD p 0) &&& 255) % 65536).toInt32) = nI (wbN w p) := by decide +kernel
theorem sh0_eq : ∀ w, w < 8 → nI (zLen.getD w 0) >>> ((0 : Int32) &&& 31) = nI (wLn w) := by decide +kernel
theorem q_length {f : zF} {K : Int32 → zF → Prop} {w : Nat} (hw : w < 8) (h : K (nI (wLn w)) f) : ci mJ0_length_8abf5 [.ref (1000 + w)] f K := by
  refine w_J0_length_8abf5 hw (w_J0_coder_7d493 hw ?_)
  rw [sh0_eq w hw]
  exact h
theorem q_charAt {f : zF} {K : Int32 → zF → Prop} {w p : Nat} (hw : w < 8) (hp : p < wLn w) (h : K (nI (wbN w p)) f) : ci mJ0_charAt_5068e [.ref (1000 + w), .int (nI p)] f K := by
  have hl := wLn_le w hw
  have hb := wbN_in w hw p hp
  have nar : narrow .char (.int (nI (wbN w p))) = .int (nI (wbN w p)) := (pk_charN (by omega)).1
  have ck : (nI p < 0 → False) ∧ (¬ nI p < 0 → ((nI p < nI (zLen.getD w 0) → True) ∧ (¬ nI p < nI (zLen.getD w 0) → False))) := ⟨fun c => absurd c (nI_pos (by omega)), fun _ => ⟨fun _ => trivial, fun c => absurd (nI_lt hp (by omega)) c⟩⟩
  refine w_J0_charAt_5068e hw (w_J0_isLatin1_aae02 hw (y1 (w_J1_charAt_3b067 hw (w_J0_checkIndex_df160 ?_))))
  have rest : vp_in (nI p) (zLen.getD w 0) ∧ (∀ z2 : Int32, z2 = (((zByt.getD w []).getD (Int32.toNatClampNeg (nI p)) 0) &&& 255) → (narrow .char (.int ((Int32.toUInt32 z2 % 65536).toInt32)) = .int ((Int32.toUInt32 z2 % 65536).toInt32) ∧ (narrow .char (.int ((Int32.toUInt32 z2 % 65536).toInt32)) = .int ((Int32.toUInt32 z2 % 65536).toInt32) ∧ K ((Int32.toUInt32 z2 % 65536).toInt32) f))) := by
    refine ⟨vp_in_nI hp (by show wLn w < 2 ^ 31; omega), fun z2 e2 => ?_⟩
    rw [nI_clamp (by omega)] at e2
    rw [e2, ch_eq w hw p hp]
    exact ⟨nar, nar, h⟩
  exact ⟨w_J3_checkIndex_8e157_null ⟨ck.1, fun c => ⟨fun _ => rest, (ck.2 c).2⟩⟩, w_J3_checkIndex_8e157 ⟨ck.1, fun c => ⟨fun _ => rest, (ck.2 c).2⟩⟩⟩
abbrev isW (β : Nat → Nat) (L : Lx) (w : Nat) : Prop := L.1 = 1 ∧ L.2.2 - L.2.1 = wLn w ∧ ∀ i, i < wLn w → β (L.2.1 + i) = wbN w i
theorem q_isWord {f : zF} {K : Int32 → zF → Prop} {β : Nat → Nat} {N : Nat} {L : Lx} {w : Nat} (hN : N ≤ 400) (hβ : ∀ j, j < N → β j < 256) (hT : tpC f β N) (hL : lxC f L) (wf : wfL β N L) (hw : w < 8) (h1 : isW β L w → K 1 f) (h0 : ¬ isW β L w → K 0 f) : ci mX5_isWord [.ref 4, .ref (1000 + w)] f K := by
  obtain ⟨t5, se, eN, wf1, wf2⟩ := wf
  have hl := wLn_le w hw
  refine w_X5_isWord hw (fun X hX => ?_)
  rw [hL.1]
  refine ⟨fun q => h0 (fun z => q (by rw [z.1]; rfl)), fun q => q_length hw ?_⟩
  have q : L.1 = 1 := (nI_lit (b := 1) (c := 1) (by omega) (by omega) rfl).mp q
  rw [hL.2.1, hL.2.2, nI_subI se]
  refine ⟨fun q2 => ?_, fun q2 => h0 (fun z => q2 (by rw [z.2.1]))⟩
  have q2 : wLn w = L.2.2 - L.2.1 := (nI_eq (by omega) (by omega)).mp q2
  have key : ∀ k n, n + k = wLn w → (∀ i, i < n → β (L.2.1 + i) = wbN w i) → Z X mX5_isWord 28 [(0, .ref 4), (1, .ref (1000 + w)), (2, .int (nI n))] [] (zC f) := by
    intro k
    induction k with
    | zero =>
      intro n hn hb
      have e : n = wLn w := by omega
      refine l_X5_isWord_28 hw hX (q_length hw ⟨fun _ => h1 ⟨q, q2.symm, fun i hi => hb i (by omega)⟩, fun z => absurd (nI_le (by omega) (by omega)) z⟩)
    | succ k ih =>
      intro n hn hb
      refine l_X5_isWord_28 hw hX (q_length hw ⟨fun z => absurd z (nI_ge (by omega) (by omega)), fun _ => q_charAt hw (by omega) ?_⟩)
      rw [hL.2.1, nI_add]
      have wi := wbN_in w hw n (by omega)
      have bi := hβ (L.2.1 + n) (by omega)
      refine q_byte hN hT (by omega) ⟨fun z => ?_, fun z => h0 (fun y => z (by rw [y.2.2 n (by omega)]))⟩
      rw [← nI_succ]
      refine ih (n + 1) (by omega) (fun i hi => ?_)
      by_cases e : i = n
      · rw [e]
        exact ((nI_eq (by omega) (by omega)).mp z).symm
      · exact hb i (by omega)
  exact key (wLn w) 0 (by omega) (fun i hi => absurd hi (by omega))
def pkN (g : Nat → Nat) : Nat → Nat
  | 0 => 0
  | n + 1 => 256 * pkN g n + g n
theorem pkN_lt {g : Nat → Nat} : ∀ n, (∀ i, i < n → g i < 256) → pkN g n < 256 ^ n
  | 0, _ => (by decide : (0 : Nat) < 256 ^ 0)
  | n + 1, h => by
    have ih := pkN_lt n (fun i hi => h i (by omega))
    have := h n (by omega)
    unfold pkN
    rw [Nat.pow_succ]
    omega
theorem pkN_inj {g h : Nat → Nat} : ∀ n m, (∀ i, i < n → 1 ≤ g i ∧ g i < 256) → (∀ i, i < m → 1 ≤ h i ∧ h i < 256) → pkN g n = pkN h m → n = m ∧ ∀ i, i < n → g i = h i
  | 0, 0, _, _, _ => ⟨rfl, fun i hi => absurd hi (by omega)⟩
  | 0, m + 1, _, h2, e => by
    have := h2 m (by omega)
    unfold pkN at e
    omega
  | n + 1, 0, h1, _, e => by
    have := h1 n (by omega)
    unfold pkN at e
    omega
  | n + 1, m + 1, h1, h2, e => by
    have a := h1 n (by omega)
    have b := h2 m (by omega)
    unfold pkN at e
    have e1 : g n = h m := by omega
    have e2 : pkN g n = pkN h m := by omega
    obtain ⟨r1, r2⟩ := pkN_inj n m (fun i hi => h1 i (by omega)) (fun i hi => h2 i (by omega)) e2
    subst r1
    refine ⟨rfl, fun i hi => ?_⟩
    by_cases q : i = n
    · rw [q]
      exact e1
    · exact r2 i (by omega)
theorem lN_push {y b : Nat} (hy : y < 2 ^ 48) (hb : b < 256) : (lN y <<< (Int32.toInt64 8 &&& 63)) ||| (Int32.toInt64 (nI b)) = lN (256 * y + b) := by
  have e1 : lN y <<< (Int32.toInt64 8 &&& 63) = lN (y * 2 ^ 8) := by
    apply Int64.toBitVec_inj.mp
    have hs : ((Int32.toInt64 8 &&& 63 : Int64).toBitVec.smod 64) = 8#64 := by decide
    rw [Int64.toBitVec_shiftLeft, hs]
    show BitVec.ofNat 64 y <<< 8#64 = BitVec.ofNat 64 (y * 2 ^ 8)
    apply BitVec.eq_of_toNat_eq
    simp [Nat.shiftLeft_eq]
  have e2 : Int32.toInt64 (nI b) = lN b := nI_l (by omega)
  rw [e1, e2]
  have e3 : y * 2 ^ 8 ||| b = 256 * y + b := by
    rw [Nat.mul_comm, show 256 = 2 ^ 8 from rfl]
    exact (Nat.two_pow_add_eq_or_of_lt (i := 8) hb y).symm
  rw [← e3]
  apply Int64.toBitVec_inj.mp
  show BitVec.ofNat 64 (y * 2 ^ 8) ||| BitVec.ofNat 64 b = BitVec.ofNat 64 (y * 2 ^ 8 ||| b)
  simp
def nmN (β : Nat → Nat) (L : Lx) : Nat := if L.1 = 1 ∧ L.2.2 - L.2.1 < 8 then pkN (fun i => β (L.2.1 + i)) (L.2.2 - L.2.1) else 0
theorem mT_2 {t : Nat} (h : t ≤ 5) : nI (mT t) = 2 ↔ t = 1 := by
  rcases (show t = 0 ∨ t = 1 ∨ t = 2 ∨ t = 3 ∨ t = 4 ∨ t = 5 by omega) with rfl | rfl | rfl | rfl | rfl | rfl <;> decide
theorem mT_3 {t : Nat} (h : t ≤ 5) : nI (mT t) = 3 ↔ t = 2 := by
  rcases (show t = 0 ∨ t = 1 ∨ t = 2 ∨ t = 3 ∨ t = 4 ∨ t = 5 by omega) with rfl | rfl | rfl | rfl | rfl | rfl <;> decide
theorem mT_4 {t : Nat} (h : t ≤ 5) : nI (mT t) = 4 ↔ t = 3 := by
  rcases (show t = 0 ∨ t = 1 ∨ t = 2 ∨ t = 3 ∨ t = 4 ∨ t = 5 by omega) with rfl | rfl | rfl | rfl | rfl | rfl <;> decide
theorem mT_5 {t : Nat} (h : t ≤ 5) : nI (mT t) = 5 ↔ t = 4 := by
  rcases (show t = 0 ∨ t = 1 ∨ t = 2 ∨ t = 3 ∨ t = 4 ∨ t = 5 by omega) with rfl | rfl | rfl | rfl | rfl | rfl <;> decide
theorem mT_1 {t : Nat} (h : t ≤ 5) : nI (mT t) = 1 ↔ t = 0 := by
  rcases (show t = 0 ∨ t = 1 ∨ t = 2 ∨ t = 3 ∨ t = 4 ∨ t = 5 by omega) with rfl | rfl | rfl | rfl | rfl | rfl <;> decide
theorem m_name {f : zF} {K : Int64 → zF → Prop} {β : Nat → Nat} {N : Nat} {L : Lx} (hN : N ≤ 400) (hβ : ∀ j, j < N → β j < 256) (hT : tpM f β N) (hL : lxM f L) (wf : wfL β N L) (h : f 52 17 = 0 → K (lN (nmN β L)) f) (h' : ¬ f 52 17 = 0 → K 0 f) : cl mX7_name [.ref 52] f K := by
  obtain ⟨t5, se, eN, wf1, wf2⟩ := wf
  refine w_X7_name (fun X hX => ?_)
  rw [hL.2.1]
  by_cases q : L.1 = 1 ∧ L.2.2 - L.2.1 < 8
  · unfold nmN at h
    rw [if_pos q] at h
    have key : ∀ k n, n + k = L.2.2 - L.2.1 → Z X mX7_name 7 [(0, .ref 52), (1, .long (lN (pkN (fun i => β (L.2.1 + i)) n))), (3, .int (nI (L.2.1 + n)))] [] (zC f) := by
      intro k
      induction k with
      | zero =>
        intro n hn
        have e : n = L.2.2 - L.2.1 := by omega
        refine l_X7_name_7 hX ⟨fun _ => ⟨fun z => h' z, fun z => ?_⟩, fun z => absurd ?_ z⟩
        · rw [e]
          exact h z
        · rw [hL.2.2.1]
          exact nI_le (by omega) (by omega)
      | succ k ih =>
        intro n hn
        refine l_X7_name_7 hX ⟨fun z => absurd z ?_, fun _ => ⟨fun z => absurd ?_ z, fun _ => ⟨fun z => absurd z ?_, fun _ => ⟨vp_in_nI (by omega) (by omega), ?_⟩⟩⟩⟩
        · rw [hL.2.2.1]
          exact nI_ge (by omega) (by omega)
        · rw [hL.1]
          exact (mT_2 t5).mpr q.1
        · rw [hL.2.2.1, hL.2.1, nI_subI se]
          exact nI_ge (b := 8) (by omega) (by omega)
        · have hb := hβ (L.2.1 + n) (by omega)
          have hy : pkN (fun i => β (L.2.1 + i)) n < 2 ^ 48 := by
            have := pkN_lt (g := fun i => β (L.2.1 + i)) n (fun i hi => hβ _ (by omega))
            refine Nat.lt_of_lt_of_le this ?_
            rw [show (2 : Nat) ^ 48 = 256 ^ 6 from rfl]
            exact Nat.pow_le_pow_right (by omega) (by omega)
          rw [nI_clamp (by omega), hT.2 _ (by omega), lN_push hy hb, nI_1]
          exact ih (n + 1) (by omega)
    exact key (L.2.2 - L.2.1) 0 (by omega)
  · unfold nmN at h
    rw [if_neg q] at h
    have out : ((¬ (f 52 17) = 0 → K 0 f) ∧ ((f 52 17) = 0 → K 0 f)) := ⟨h', h⟩
    refine l_X7_name_7 hX ⟨fun _ => out, fun _ => ⟨fun _ => out, fun z => ⟨fun _ => out, fun z2 => ?_⟩⟩⟩
    rw [hL.1] at z
    rw [hL.2.2.1, hL.2.1, nI_subI se] at z2
    exact absurd ⟨(mT_2 t5).mp z, Nat.lt_of_not_le (fun y => z2 (nI_le (a := 8) y (by omega)))⟩ q
theorem soN_1 {b : Nat} (h : soN b = 1) : 97 ≤ b ∧ b ≤ 122 := by
  unfold soN at h
  by_cases q : 97 ≤ b ∧ b ≤ 122
  · exact q
  · rw [if_neg q] at h
    revert h
    repeat' split
    all_goals omega
theorem soN_2 {b : Nat} (h : soN b = 2) : 48 ≤ b ∧ b ≤ 57 := by
  unfold soN at h
  by_cases q : 97 ≤ b ∧ b ≤ 122
  · rw [if_pos q] at h
    omega
  · rw [if_neg q] at h
    by_cases q2 : 48 ≤ b ∧ b ≤ 57
    · exact q2
    · rw [if_neg q2] at h
      revert h
      repeat' split
      all_goals omega
/-- a packed name is a word's -/
theorem nm_is {β : Nat → Nat} {N : Nat} {L : Lx} (wf : wfL β N L) {w : Nat} (hw : w < 8) {C : Int64} (hC : C = lN (pkN (wbN w) (wLn w))) : lg_cmp (lN (nmN β L)) C = 0 ↔ isW β L w := by
  obtain ⟨t5, se, eN, wf1, wf2⟩ := wf
  have hl := wLn_le w hw
  have wi := wbN_in w hw
  have big : ∀ g : Nat → Nat, ∀ n, n < 8 → (∀ i, i < n → g i < 256) → pkN g n < 2 ^ 63 := by
    intro g n hn hg
    refine Nat.lt_of_lt_of_le (pkN_lt n hg) (Nat.le_trans (Nat.pow_le_pow_right (by omega) (show n ≤ 7 by omega)) (by decide))
  have b2 : pkN (wbN w) (wLn w) < 2 ^ 63 := big _ _ (by omega) (fun i hi => by have := wi i hi; omega)
  rw [lg_cmp_eq, hC]
  unfold nmN isW
  by_cases q : L.1 = 1 ∧ L.2.2 - L.2.1 < 8
  · have lb : ∀ i, i < L.2.2 - L.2.1 → 1 ≤ β (L.2.1 + i) ∧ β (L.2.1 + i) < 256 := fun i hi => by
      have := soN_1 (wf1 q.1 (L.2.1 + i) (by omega) (by omega))
      omega
    rw [if_pos q, pk_lEQ (big _ _ q.2 (fun i hi => (lb i hi).2)) b2]
    constructor
    · intro e
      obtain ⟨e1, e2⟩ := pkN_inj _ _ lb (fun i hi => by have := wi i hi; omega) e
      exact ⟨q.1, e1, fun i hi => e2 i (by omega)⟩
    · rintro ⟨-, e1, e2⟩
      rw [e1]
      have cong : ∀ n, n ≤ wLn w → pkN (fun i => β (L.2.1 + i)) n = pkN (wbN w) n := by
        intro n
        induction n with
        | zero => intro _; rfl
        | succ n ih =>
          intro hn
          unfold pkN
          rw [ih (by omega), e2 n (by omega)]
      exact cong _ (Nat.le_refl _)
  · rw [if_neg q, pk_lEQ (by decide) b2]
    constructor
    · intro e
      have e : pkN (fun _ => 1) 0 = pkN (wbN w) (wLn w) := e
      have := (pkN_inj 0 (wLn w) (fun i hi => absurd hi (by omega)) (fun i hi => by have := wi i hi; omega) e).1
      omega
    · rintro ⟨e0, e1, e2⟩
      exact absurd ⟨e0, by omega⟩ q
def nuN (g : Nat → Nat) : Nat → Nat
  | 0 => 0
  | n + 1 => 10 * nuN g n + (g n - 48)
def nuL (β : Nat → Nat) (L : Lx) : Nat := nuN (fun i => β (L.2.1 + i)) (L.2.2 - L.2.1)
theorem nuN_lt {g : Nat → Nat} : ∀ n, (∀ i, i < n → 48 ≤ g i ∧ g i ≤ 57) → nuN g n < 10 ^ n
  | 0, _ => (by decide : (0 : Nat) < 10 ^ 0)
  | n + 1, h => by
    have ih := nuN_lt n (fun i hi => h i (by omega))
    have := h n (by omega)
    unfold nuN
    rw [Nat.pow_succ]
    omega
theorem nuL_lt {β : Nat → Nat} {N : Nat} {L : Lx} (wf : wfL β N L) (h2 : L.1 = 2) : nuL β L < 1000 := by
  obtain ⟨t5, se, eN, wf1, wf2⟩ := wf
  obtain ⟨a, b⟩ := wf2 h2
  refine Nat.lt_of_lt_of_le (nuN_lt _ (fun i hi => soN_2 (b _ (by omega) (by omega)))) (Nat.le_trans (Nat.pow_le_pow_right (by omega) a) (by decide))
theorem nu_step {y b : Nat} (h : 48 ≤ b) : 10 * nI y + nI b - 48 = nI (10 * y + (b - 48)) := by
  rw [show (10 : Int32) = nI 10 from rfl, show (48 : Int32) = nI 48 from rfl, pk_mul, nI_add, nI_subI (by omega)]
  congr 1
  omega
theorem q_numberTold {f : zF} {K : Int32 → zF → Prop} {β : Nat → Nat} {N : Nat} {L : Lx} (hN : N ≤ 400) (hT : tpC f β N) (hL : lxC f L) (wf : wfL β N L) (h2 : L.1 = 2) (h : K (nI (nuL β L)) f) : ci mX5_numberTold [.ref 4] f K := by
  obtain ⟨t5, se, eN, wf1, wf2⟩ := wf
  obtain ⟨l3, dg⟩ := wf2 h2
  refine w_X5_numberTold (fun X hX => ?_)
  rw [hL.2.1]
  have key : ∀ k n, n + k = L.2.2 - L.2.1 → Z X mX5_numberTold 7 [(0, .ref 4), (1, .int (nI (nuN (fun i => β (L.2.1 + i)) n))), (2, .int (nI (L.2.1 + n)))] [] (zC f) := by
    intro k
    induction k with
    | zero =>
      intro n hn
      have e : n = L.2.2 - L.2.1 := by omega
      refine l_X5_numberTold_7 hX ⟨fun _ => ?_, fun z => absurd ?_ z⟩
      · rw [e]
        exact h
      · rw [hL.2.2]
        exact nI_le (by omega) (by omega)
    | succ k ih =>
      intro n hn
      have d := soN_2 (dg (L.2.1 + n) (by omega) (by omega))
      refine l_X5_numberTold_7 hX ⟨fun z => absurd z ?_, fun _ => q_byte hN hT (by omega) ?_⟩
      · rw [hL.2.2]
        exact nI_ge (by omega) (by omega)
      · rw [nu_step d.1, nI_1]
        exact ih (n + 1) (by omega)
  exact key (L.2.2 - L.2.1) 0 (by omega)
theorem m_figures {f : zF} {K : Int32 → zF → Prop} {β : Nat → Nat} {N : Nat} {L : Lx} (hN : N ≤ 400) (hT : tpM f β N) (hL : lxM f L) (wf : wfL β N L) (h : K (nI (if L.1 = 2 then nuL β L else 0)) f) : ci mX7_figures [.ref 52] f K := by
  obtain ⟨t5, se, eN, wf1, wf2⟩ := wf
  refine w_X7_figures (fun X hX => ?_)
  rw [hL.2.1]
  by_cases h2 : L.1 = 2
  · rw [if_pos h2] at h
    obtain ⟨l3, dg⟩ := wf2 h2
    have key : ∀ k n, n + k = L.2.2 - L.2.1 → Z X mX7_figures 7 [(0, .ref 52), (1, .int (nI (nuN (fun i => β (L.2.1 + i)) n))), (2, .int (nI (L.2.1 + n)))] [] (zC f) := by
      intro k
      induction k with
      | zero =>
        intro n hn
        have e : n = L.2.2 - L.2.1 := by omega
        refine l_X7_figures_7 hX ⟨fun _ => ?_, fun z => absurd ?_ z⟩
        · rw [e]
          exact h
        · rw [hL.2.2.1]
          exact nI_le (by omega) (by omega)
      | succ k ih =>
        intro n hn
        have d := soN_2 (dg (L.2.1 + n) (by omega) (by omega))
        refine l_X7_figures_7 hX ⟨fun z => absurd z ?_, fun _ => ⟨fun z => absurd ?_ z, fun _ => ⟨vp_in_nI (by omega) (by omega), fun z1 e1 => ?_⟩⟩⟩
        · rw [hL.2.2.1]
          exact nI_ge (by omega) (by omega)
        · rw [hL.1]
          exact (mT_3 t5).mpr h2
        · rw [nI_clamp (by omega), hT.2 _ (by omega)] at e1
          rw [e1, nu_step d.1, nI_1]
          exact ih (n + 1) (by omega)
    exact key (L.2.2 - L.2.1) 0 (by omega)
  · rw [if_neg h2] at h
    refine l_X7_figures_7 hX ⟨fun _ => h, fun _ => ⟨fun _ => h, fun z => ?_⟩⟩
    rw [hL.1] at z
    exact absurd ((mT_3 t5).mp z) h2
