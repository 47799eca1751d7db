/-! ===== the pairs write, turn, undo ===== -/
/-- kept: one page more, B upon it -/
theorem iPg_push {f f' : zF} {H : Nat → aPg} {na lt : Nat} {B : aPg} (hG : iPgH f H na lt) (okB : okPg B) (hP : CP f' 12 B) (hM : MP (f' 56) 0 B) (h4 : f' 18 4 = nI (if na = 24 then 24 else na + 1)) (h3 : f' 18 3 = nI (if lt = 23 then 0 else lt + 1)) (h8 : f' 52 8 = nI (if na = 24 then 24 else na + 1)) (hA : iAct f' (if lt = 23 then 0 else lt + 1) (H na) B) (hr : ∀ c, 19 ≤ c → c ≤ 21 → ∀ j, j ≠ (if lt = 23 then 0 else lt + 1) → f' c j = f c j) (hs : ∀ j, j < 37 * (if na = 24 then 23 else na) → f' 58 j = f 58 (if na = 24 then j + 37 else j)) (hn : ∀ j, j < 37 → f' 58 (37 * (if na = 24 then 23 else na) + j) = f 56 j) : iPg f' := by
  obtain ⟨x1, x2, x3, x4, x5, x6, x7, x8, x9⟩ := hG
  have hl : (if lt = 23 then 0 else lt + 1) < 24 ∧ (lt = 23 ∧ (if lt = 23 then 0 else lt + 1) = 0 ∨ lt ≠ 23 ∧ (if lt = 23 then 0 else lt + 1) = lt + 1) := by
    by_cases z : lt = 23
    · rw [if_pos z]
      omega
    · rw [if_neg z]
      omega
  generalize (if lt = 23 then 0 else lt + 1) = lu at h3 hA hr hl
  by_cases q : na = 24
  · subst q
    rw [if_pos rfl] at h4 h8 hn
    refine ⟨fun t => if t < 24 then H (t + 1) else B, 24, lu, by omega, hl.1, fun t ht => ?_, ?_, ?_, h4, h8, h3, fun t ht => ⟨?_, ?_⟩⟩
    · show okPg (if t < 24 then H (t + 1) else B)
      by_cases z : t < 24
      · rw [if_pos z]
        exact x3 (t + 1) (by omega)
      · rw [if_neg z]
        exact okB
    · show CP f' 12 (if 24 < 24 then _ else B)
      rw [if_neg (by omega)]
      exact hP
    · show MP (f' 56) 0 (if 24 < 24 then _ else B)
      rw [if_neg (by omega)]
      exact hM
    · show MP (f' 58) (37 * t) (if t < 24 then H (t + 1) else B)
      rw [if_pos ht]
      by_cases z : t = 23
      · subst z
        refine MP_cp (b0 := 0) (x3 24 (by omega)) (fun j hj => ?_) x5
        rw [Nat.zero_add]
        exact hn j hj
      · refine MP_cp (b0 := 37 * (t + 1)) (x3 (t + 1) (by omega)) (fun j hj => ?_) (x9 (t + 1) (by omega)).1
        rw [hs _ (by rw [if_pos rfl]; omega), if_pos rfl]
        congr 1
        omega
    · show iAct f' _ (if t < 24 then H (t + 1) else B) (if t + 1 < 24 then H (t + 1 + 1) else B)
      rw [if_pos ht]
      by_cases z : t = 23
      · subst z
        rw [if_neg (by omega)]
        have e : slN lu 24 23 = lu := by
          unfold slN
          omega
        rw [e]
        exact hA
      · rw [if_pos (by omega)]
        have e : slN lu 24 t = slN lt 24 (t + 1) := by
          unfold slN
          omega
        have ne : slN lt 24 (t + 1) ≠ lu := by
          unfold slN
          omega
        rw [e]
        exact iAct_eq (hr 19 (by omega) (by omega) _ ne) (hr 20 (by omega) (by omega) _ ne) (hr 21 (by omega) (by omega) _ ne) (x9 (t + 1) (by omega)).2
  · rw [if_neg q] at h4 h8 hn
    refine ⟨fun t => if t ≤ na then H t else B, na + 1, lu, by omega, hl.1, fun t ht => ?_, ?_, ?_, h4, h8, h3, fun t ht => ⟨?_, ?_⟩⟩
    · show okPg (if t ≤ na then H t else B)
      by_cases z : t ≤ na
      · rw [if_pos z]
        exact x3 t z
      · rw [if_neg z]
        exact okB
    · show CP f' 12 (if na + 1 ≤ na then _ else B)
      rw [if_neg (by omega)]
      exact hP
    · show MP (f' 56) 0 (if na + 1 ≤ na then _ else B)
      rw [if_neg (by omega)]
      exact hM
    · show MP (f' 58) (37 * t) (if t ≤ na then H t else B)
      rw [if_pos (by omega)]
      by_cases z : t = na
      · subst z
        refine MP_cp (b0 := 0) (x3 t (by omega)) (fun j hj => ?_) x5
        rw [Nat.zero_add]
        exact hn j hj
      · refine MP_cp (b0 := 37 * t) (x3 t (by omega)) (fun j hj => ?_) (x9 t (by omega)).1
        rw [hs _ (by rw [if_neg q]; omega), if_neg q]
    · show iAct f' _ (if t ≤ na then H t else B) (if t + 1 ≤ na then H (t + 1) else B)
      rw [if_pos (by omega)]
      by_cases z : t = na
      · subst z
        rw [if_neg (by omega)]
        have e : slN lu (t + 1) t = lu := by
          unfold slN
          omega
        rw [e]
        exact hA
      · rw [if_pos (by omega)]
        have e : slN lu (na + 1) t = slN lt na t := by
          unfold slN
          omega
        have ne : slN lt na t ≠ lu := by
          unfold slN
          omega
        rw [e]
        exact iAct_eq (hr 19 (by omega) (by omega) _ ne) (hr 20 (by omega) (by omega) _ ne) (hr 21 (by omega) (by omega) _ ne) (x9 t (by omega)).2
theorem pS_b {A : aPg} (s p l q : Nat) : pF (wrN A s p l) q = (if s = 0 ∧ q = p then l else pF A q) ∧ pB (wrN A s p l) q = (if s ≠ 0 ∧ q = p then l else pB A q) := by
  constructor
  · show (if s = 0 then upN (pF A) p l else pF A) q = _
    by_cases hs : s = 0
    · rw [if_pos hs]
      unfold upN
      by_cases z : q = p
      · rw [if_pos z, if_pos ⟨hs, z⟩]
      · rw [if_neg z, if_neg (fun w => z w.2)]
    · rw [if_neg hs, if_neg (fun w => hs w.1)]
  · show (if s = 0 then pB A else upN (pB A) p l) q = _
    by_cases hs : s = 0
    · rw [if_pos hs, if_neg (fun w => w.1 hs)]
    · rw [if_neg hs]
      unfold upN
      by_cases z : q = p
      · rw [if_pos z, if_pos ⟨hs, z⟩]
      · rw [if_neg z, if_neg (fun w => z w.2)]
theorem MP_wr {g : Nat → Int32} {A : aPg} (ok : okPg A) (h : MP g 0 A) {s p l : Nat} (hs : s < 2) (hp : p < pP A) {g' : Nat → Int32} (h1 : g' (19 + 9 * s + p) = nI l) (h2 : ∀ j, j ≠ 19 + 9 * s + p → g' j = g j) : MP g' 0 (wrN A s p l) := by
  have h8 := ok.2.1
  have h9 := ok.2.2.1
  obtain ⟨a1, a2, a3, a4, a5⟩ := h
  refine ⟨(h2 _ (by omega)).trans a1, (h2 _ (by omega)).trans a2, (h2 _ (by omega)).trans a3, fun l hl => ?_, fun q hq => ?_⟩
  · have hl : l < pL A := hl
    exact ⟨(h2 _ (by omega)).trans (a4 l hl).1, (h2 _ (by omega)).trans (a4 l hl).2⟩
  · have hq : q < pP A := hq
    have e := pS_b (A := A) s p l q
    rw [e.1, e.2]
    have a5 := a5 q hq
    rw [Nat.zero_add, Nat.zero_add] at a5 ⊢
    rcases (show s = 0 ∨ s = 1 by omega) with rfl | rfl
    · have e2 : (if (0 : Nat) ≠ 0 ∧ q = p then l else pB A q) = pB A q := if_neg (fun w => w.1 rfl)
      rw [e2]
      by_cases z : q = p
      · subst z
        rw [if_pos ⟨rfl, rfl⟩]
        exact ⟨h1, (h2 _ (by omega)).trans a5.2⟩
      · rw [if_neg (fun w => z w.2)]
        exact ⟨(h2 _ (by omega)).trans a5.1, (h2 _ (by omega)).trans a5.2⟩
    · rw [if_neg (fun w => absurd w.1 (by omega))]
      by_cases z : q = p
      · subst z
        rw [if_pos ⟨by omega, rfl⟩]
        refine ⟨(h2 _ (by omega)).trans a5.1, ?_⟩
        rw [← h1]
      · rw [if_neg (fun w => z w.2)]
        exact ⟨(h2 _ (by omega)).trans a5.1, (h2 _ (by omega)).trans a5.2⟩
theorem p_write : ∀ (a0 a1 a2 : Int32) (f : zF), Inv f → pr2 Inv mX6_write mX7_write [.int a0, .int a1, .int a2] f := by
  intro a0 a1 a2 f hI K hK
  have fin : ∀ r f', nz f f' → K r r f' := fun r f' h => hK r f' (Inv_nz hI h)
  obtain ⟨H, na, lt, hG⟩ := hI.2.2.1
  obtain ⟨x1, x2, x3, hP, hM, x6, x7, x8, x9⟩ := id hG
  have ok := x3 na (Nat.le_refl _)
  have hM0 := MP_nz (z0 f) hM
  have h9 := ok.2.2.1
  have h8 := ok.2.1
  rcases inOut a0 (n := 2) (by omega) with h0 | ⟨s, hs, rfl⟩
  · exact w_X6_write (q_hasPlace_f hP (Or.inl h0) (y0 (w_X7_write (m_isSide_f h0 (y0 (fin _ _ (z0 f)))))))
  · rcases inOut a1 (n := pP (H na)) (by omega) with h1 | ⟨p, hp, rfl⟩
    · exact w_X6_write (q_hasPlace_f hP (Or.inr h1) (y0 (w_X7_write (m_isSide_t hs (y1 (m_isPlace_f hM0 ok h1 (y0 (fin _ _ (z0 f)))))))))
    · rcases inOut a2 (n := pL (H na)) (by omega) with h2 | ⟨l, hl, rfl⟩
      · exact w_X6_write (q_hasPlace_t hP ok hs hp (y1 (q_hasLetter_f hP h2 (y0' (w_X7_write (m_isSide_t hs (y1 (m_isPlace_t hM0 ok hp (y1 (m_isOne_f hM0 ok h2 (y0' (fin _ _ (z0 f)))))))))))))
      · refine w_X6_write (q_hasPlace_t hP ok hs hp (y1 (q_hasLetter_t hP ok hl (y1' (q_letterAt hP ok hs hp ?_)))))
        refine q_keep x1 x2 x6 x8 (fun f1 b1 b2 b3 b4 b5 b6 b7 => ?_)
        have P1 : CP f1 12 (H na) := CP_eq (fun q h1 h2 => b1 q (by omega)) hP
        refine q_putLetter P1 ok hs hp (fun f2 c1 c2 => ?_)
        have e56 : (zup f2 52 0 0) 56 = f 56 := by rw [zup_ne (by omega), c1 56 (by omega) (by omega), b1 56 (by omega)]
        have e52 : ∀ j, j ≠ 0 → (zup f2 52 0 0) 52 j = f 52 j := fun j hj => by rw [up_sl hj, c1 52 (by omega) (by omega), b1 52 (by omega)]
        have M2 : MP ((zup f2 52 0 0) 56) 0 (H na) := by rw [e56]; exact hM
        refine w_X7_write (m_isSide_t hs (y1 (m_isPlace_t M2 ok hp (y1 (m_isOne_t M2 ok hl (y1' (m_keep x1 ((e52 8 (by omega)).trans x7) (fun f3 d1 d2 d3 d4 d5 => ?_)))))))) 
        have M3 : MP (f3 56) 0 (H na) := by rw [d1 56 (by omega) (by omega)]; exact M2
        refine m_on M3 ok hs hp ?_
        rw [ix_s, nI_clamp (by omega)]
        refine ⟨vp_in_nI (by omega) (by omega), hK _ _ (Inv_page hI (iPg_push (B := wrN (H na) s p l) hG (ok_wr ok hl) ?_ ?_ ?_ ?_ ?_ ?_ (fun c k1 k2 j hj => ?_) (fun j hj => ?_) (fun j hj => ?_)) (fun c k1 k2 k3 k4 => ?_) (fun j j1 j2 j3 j4 => ?_))⟩
        · exact CP_eq (f := f2) (fun q h1 h2 => by rw [zup_ne (by omega), d1 q (by omega) (by omega), zup_ne (by omega)]) c2
        · exact MP_wr ok M3 hs hp up_at (fun j hj => up_sl hj)
        · rw [zup_ne (by omega), d1 18 (by omega) (by omega), zup_ne (by omega), c1 18 (by omega) (by omega)]
          exact b2
        · rw [zup_ne (by omega), d1 18 (by omega) (by omega), zup_ne (by omega), c1 18 (by omega) (by omega)]
          exact b3
        · rw [zup_ne (by omega)]
          exact d3
        · refine Or.inr ⟨s, p, pS (H na) s p, hs, hp, pS_lt ok hp, ?_, ?_, ?_, (wr_wr (H na) hs).symm⟩
          · rw [zup_ne (by omega), d1 19 (by omega) (by omega), zup_ne (by omega), c1 19 (by omega) (by omega)]
            exact b4
          · rw [zup_ne (by omega), d1 20 (by omega) (by omega), zup_ne (by omega), c1 20 (by omega) (by omega)]
            exact b5
          · rw [zup_ne (by omega), d1 21 (by omega) (by omega), zup_ne (by omega), c1 21 (by omega) (by omega)]
            exact b6
        · rw [zup_ne (by omega), d1 c (by omega) (by omega), zup_ne (by omega), c1 c (by omega) (by omega)]
          exact b7 c k1 k2 j hj
        · rw [zup_ne (by omega), d4 j hj, zup_ne (by omega), c1 58 (by omega) (by omega), b1 58 (by omega)]
        · rw [zup_ne (by omega), d5 j hj, e56]
        · rw [zup_ne k3, d1 c k2 k4, zup_ne k2, c1 c (by omega) (by omega), b1 c (by omega)]
        · rw [zup_ne (by omega), d2 j j2, e52 j j1]
theorem m_turn_loop {f : zF} {K : Int32 → zF → Prop} {A : aPg} (ok : okPg A) (hM : MP (f 56) 0 A) {X : zX} (hX : kR X (zRi K)) (h : ∀ f', (∀ c, c ≠ 56 → f' c = f c) → MP (f' 56) 0 (tuN A) → K (nI (pP A)) f') : Z X mX7_turn 21 [(0, .ref 52), (1, .int 0)] [] (zC f) := by
  have h8 := ok.2.1
  have h9 := ok.2.2.1
  have key : ∀ k n g, n + k = 9 → (∀ c, c ≠ 56 → g c = f c) → (∀ j, j < n → g 56 (19 + j) = f 56 (28 + j) ∧ g 56 (28 + j) = f 56 (19 + j)) → (∀ j, (j < 19 ∨ (19 + n ≤ j ∧ j < 28) ∨ 28 + n ≤ j) → g 56 j = f 56 j) → Z X mX7_turn 21 [(0, .ref 52), (1, .int (nI n))] [] (zC g) := by
    intro k
    induction k with
    | zero =>
      intro n g hn b1 b2 b3
      have e : n = 9 := by omega
      subst e
      refine l_X7_turn_21 hX ⟨fun _ => ?_, fun q => absurd (Int32.le_refl _) q⟩
      rw [b3 2 (by omega), show f 56 2 = nI (pP A) from hM.2.2.1]
      refine h g b1 ?_
      obtain ⟨a1, a2, a3, a4, a5⟩ := hM
      refine ⟨(b3 _ (by omega)).trans a1, (b3 _ (by omega)).trans a2, (b3 _ (by omega)).trans a3, fun l hl => ?_, fun q hq => ?_⟩
      · have hl : l < pL A := hl
        exact ⟨(b3 _ (by omega)).trans (a4 l hl).1, (b3 _ (by omega)).trans (a4 l hl).2⟩
      · have hq : q < pP A := hq
        have a5 := a5 q hq
        have b2 := b2 q (by omega)
        rw [Nat.zero_add, Nat.zero_add] at a5 ⊢
        exact ⟨b2.1.trans a5.2, b2.2.trans a5.1⟩
    | succ k ih =>
      intro n g hn b1 b2 b3
      have e1 : 19 + nI n = nI (19 + n) := nI_add 19 n
      have e2 : 28 + nI n = nI (28 + n) := nI_add 28 n
      refine l_X7_turn_21 hX ⟨fun q => absurd q (nI_ge (b := 9) (by omega) (by omega)), fun _ => ?_⟩
      rw [e1, e2, nI_clamp (by omega), nI_clamp (by omega), ← nI_succ]
      refine ⟨vp_in_nI (by omega) (by omega), vp_in_nI (by omega) (by omega), vp_in_nI (by omega) (by omega), vp_in_nI (by omega) (by omega), ih (n + 1) _ (by omega) (fun c hc => by rw [zup_ne hc, zup_ne hc]; exact b1 c hc) (fun j hj => ?_) (fun j hj => by rw [up_sl (by omega), up_sl (by omega)]; exact b3 j (by omega))⟩
      by_cases e : j = n
      · subst e
        rw [up_at, up_sl (by omega), up_at]
        exact ⟨b3 _ (by omega), b3 _ (by omega)⟩
      · rw [up_sl (by omega), up_sl (by omega), up_sl (by omega), up_sl (by omega)]
        exact b2 j (by omega)
  exact key 9 0 f rfl (fun _ _ => rfl) (fun j hj => absurd hj (by omega)) (fun _ _ => rfl)
theorem p_turn : ∀ (f : zF), Inv f → pr2 Inv mX6_turn mX7_turn [] f := by
  intro f hI K hK
  have fin : ∀ r f', nz f f' → K r r f' := fun r f' h => hK r f' (Inv_nz hI h)
  obtain ⟨H, na, lt, hG⟩ := hI.2.2.1
  obtain ⟨x1, x2, x3, hP, hM, x6, x7, x8, x9⟩ := id hG
  have ok := x3 na (Nat.le_refl _)
  have hM0 := MP_nz (z0 f) hM
  rcases Nat.eq_zero_or_pos (pL (H na)) with hL | hL
  · exact w_X6_turn (q_isThere_f hP hL (y0' (w_X7_turn (fun X hX => m_isThere_f hM0 hL (y0' (fin _ _ (z0 f)))))))
  · refine w_X6_turn (q_isThere_t hP ok hL (y1' ?_))
    refine q_keep x1 x2 x6 x8 (fun f1 b1 b2 b3 b4 b5 b6 b7 => ?_)
    have P1 : CP f1 12 (H na) := CP_eq (fun q h1 h2 => b1 q (by omega)) hP
    refine q_turnOver P1 ok (fun f2 c1 c2 => ?_)
    have e56 : (zup f2 52 0 0) 56 = f 56 := by rw [zup_ne (by omega), c1 56 (by omega) (by omega), b1 56 (by omega)]
    have e52 : ∀ j, j ≠ 0 → (zup f2 52 0 0) 52 j = f 52 j := fun j hj => by rw [up_sl hj, c1 52 (by omega) (by omega), b1 52 (by omega)]
    have M2 : MP ((zup f2 52 0 0) 56) 0 (H na) := by rw [e56]; exact hM
    rw [show f2 12 2 = nI (pP (H na)) from c2.2.2.1]
    refine w_X7_turn (fun X hX => m_isThere_t M2 ok hL (y1' (m_keep x1 ((e52 8 (by omega)).trans x7) (fun f3 d1 d2 d3 d4 d5 => ?_))))
    have M3 : MP (f3 56) 0 (H na) := by rw [d1 56 (by omega) (by omega)]; exact M2
    refine m_turn_loop ok M3 hX (fun f4 g1 g2 => hK _ _ (Inv_page hI (iPg_push (B := tuN (H na)) hG (ok_tu ok) ?_ g2 ?_ ?_ ?_ ?_ (fun c k1 k2 j hj => ?_) (fun j hj => ?_) (fun j hj => ?_)) (fun c k1 k2 k3 k4 => ?_) (fun j j1 j2 j3 j4 => ?_)))
    · exact CP_eq (f := f2) (fun q h1 h2 => by rw [g1 q (by omega), d1 q (by omega) (by omega), zup_ne (by omega)]) c2
    · rw [g1 18 (by omega), d1 18 (by omega) (by omega), zup_ne (by omega), c1 18 (by omega) (by omega)]
      exact b2
    · rw [g1 18 (by omega), d1 18 (by omega) (by omega), zup_ne (by omega), c1 18 (by omega) (by omega)]
      exact b3
    · rw [g1 52 (by omega)]
      exact d3
    · refine Or.inl ⟨?_, (tu_tu (H na)).symm⟩
      rw [g1 19 (by omega), d1 19 (by omega) (by omega), zup_ne (by omega), c1 19 (by omega) (by omega)]
      exact b4
    · rw [g1 c (by omega), d1 c (by omega) (by omega), zup_ne (by omega), c1 c (by omega) (by omega)]
      exact b7 c k1 k2 j hj
    · rw [g1 58 (by omega), d4 j hj, zup_ne (by omega), c1 58 (by omega) (by omega), b1 58 (by omega)]
    · rw [g1 58 (by omega), d5 j hj, e56]
    · rw [g1 c k3, d1 c k2 k4, zup_ne k2, c1 c (by omega) (by omega), b1 c (by omega)]
    · rw [g1 52 (by omega), d2 j j2, e52 j j1]
theorem m_undo_loop {f : zF} {K : Int32 → zF → Prop} {m : Nat} (hm : m < 24) (h8 : f 52 8 = nI m) {X : zX} (hX : kR X (zRi K)) (h : ∀ f', (∀ c, c ≠ 56 → f' c = f c) → (∀ j, j < 37 → f' 56 j = f 58 (37 * m + j)) → K (nI m) f') : Z X mX7_undo 27 [(0, .ref 52), (1, .int 0)] [] (zC f) := by
  have key : ∀ k n g, n + k = 37 → (∀ c, c ≠ 56 → g c = f c) → (∀ j, j < n → g 56 j = f 58 (37 * m + j)) → Z X mX7_undo 27 [(0, .ref 52), (1, .int (nI n))] [] (zC g) := by
    intro k
    induction k with
    | zero =>
      intro n g hn b1 b2
      have e : n = 37 := by omega
      subst e
      refine l_X7_undo_27 hX ⟨fun _ => ?_, fun q => absurd (Int32.le_refl _) q⟩
      rw [b1 52 (by omega), h8]
      exact h g b1 b2
    | succ k ih =>
      intro n g hn b1 b2
      refine l_X7_undo_27 hX ⟨fun q => absurd q (nI_ge (b := 37) (by omega) (by omega)), fun _ => ?_⟩
      rw [b1 52 (by omega), h8, ix37, nI_clamp (by omega), nI_clamp (by omega), ← nI_succ]
      refine ⟨vp_in_nI (by omega) (by omega), vp_in_nI (by omega) (by omega), ih (n + 1) _ (by omega) (fun c hc => by rw [zup_ne hc]; exact b1 c hc) (fun j hj => ?_)⟩
      by_cases e : j = n
      · subst e
        rw [up_at, b1 58 (by omega)]
      · rw [up_sl e]
        exact b2 j (by omega)
  exact key 37 0 f rfl (fun _ _ => rfl) (fun j hj => absurd hj (by omega))
theorem p_undo : ∀ (f : zF), Inv f → pr2 Inv mX6_undo mX7_undo [] f := by
  intro f hI K hK
  have fin : ∀ r f', nz f f' → K r r f' := fun r f' h => hK r f' (Inv_nz hI h)
  obtain ⟨H, na, lt, hG⟩ := hI.2.2.1
  obtain ⟨x1, x2, x3, hP, hM, x6, x7, x8, x9⟩ := id hG
  have ok := x3 na (Nat.le_refl _)
  have e8 : (zup f 52 0 0) 52 8 = nI na := by rw [up_sl (by omega)]; exact x7
  rcases Nat.eq_zero_or_pos na with n0 | n0
  · subst n0
    refine w_X6_undo ⟨fun c => absurd x6 c, fun _ => w_X7_undo (fun X hX => ⟨fun c => absurd x7 c, fun _ => fin _ _ (z0 f)⟩)⟩
  · obtain ⟨m, rfl⟩ : ∃ m, na = m + 1 := ⟨na - 1, by omega⟩
    have ok1 := x3 m (by omega)
    have nz1 : ∀ {x : Int32}, x = nI (m + 1) → ¬ x = 0 := fun {x} e c => absurd (e.symm.trans c) (nI_ne0 (by omega) (by omega))
    -- what is left once the class has the page as it was
    have tail : ∀ f1 : zF, (∀ c, c ≠ 16 → c ≠ 17 → f1 c = f c) → CP f1 12 (H m) → cv mX0_forgetLatest [.ref 18] f1 (fun f6 => ci mX7_undo [.ref 52] f6 (fun r2 f2 => K (f6 18 4) r2 f2)) := by
      intro f1 b1 b2
      refine w_X0_forgetLatest (fun z1 e1 z2 e2 => ?_)
      have e1 : z1 = nI (if lt = 0 then 23 else lt - 1) := by
        rw [e1, b1 18 (by omega) (by omega), x8]
        by_cases q : lt = 0
        · subst q
          decide
        · rw [if_neg (nI_nle (by omega) (by omega)), if_neg q, show (1 : Int32) = nI 1 from rfl, nI_subI (by omega)]
      have e2 : z2 = nI m := by
        rw [e2, b1 18 (by omega) (by omega), x6, nI_pred, if_neg (nI_pos (by omega))]
      rw [e1, e2, up_at]
      have c8 : (zup (zup f1 18 3 (nI (if lt = 0 then 23 else lt - 1))) 18 4 (nI m)) 52 8 = nI (m + 1) := by rw [zup_ne (by omega), zup_ne (by omega), b1 52 (by omega) (by omega)]; exact x7
      refine w_X7_undo (fun X hX => ⟨fun _ => ?_, fun c => absurd c (nz1 c8)⟩)
      rw [c8, nI_pred]
      refine m_undo_loop (m := m) (by omega) up_at hX (fun f4 g1 g2 => hK _ _ (Inv_page hI ⟨H, m, if lt = 0 then 23 else lt - 1, by omega, by split <;> omega, fun t ht => x3 t (by omega), ?_, ?_, ?_, ?_, ?_, fun t ht => ⟨?_, ?_⟩⟩ (fun c k1 k2 k3 k4 => ?_) (fun j j1 j2 j3 j4 => ?_)))
      · exact CP_eq (f := f1) (fun q h1 h2 => by rw [g1 q (by omega), zup_ne (by omega), zup_ne (by omega), zup_ne (by omega), zup_ne (by omega)]) b2
      · refine MP_cp (b0 := 37 * m) ok1 (fun j hj => ?_) (x9 m (by omega)).1
        rw [Nat.zero_add, g2 j hj, zup_ne (by omega), zup_ne (by omega), zup_ne (by omega), zup_ne (by omega), b1 58 (by omega) (by omega)]
      · rw [g1 18 (by omega), zup_ne (by omega), zup_ne (by omega), up_at]
      · rw [g1 52 (by omega), up_at]
      · rw [g1 18 (by omega), zup_ne (by omega), zup_ne (by omega), up_sl (by omega), up_at]
      · rw [g1 58 (by omega), zup_ne (by omega), zup_ne (by omega), zup_ne (by omega), zup_ne (by omega), b1 58 (by omega) (by omega)]
        exact (x9 t (by omega)).1
      · have e : slN (if lt = 0 then 23 else lt - 1) m t = slN lt (m + 1) t := by
          unfold slN
          split <;> omega
        rw [e]
        refine iAct_eq ?_ ?_ ?_ (x9 t (by omega)).2
        · rw [g1 19 (by omega), zup_ne (by omega), zup_ne (by omega), zup_ne (by omega), zup_ne (by omega), b1 19 (by omega) (by omega)]
        · rw [g1 20 (by omega), zup_ne (by omega), zup_ne (by omega), zup_ne (by omega), zup_ne (by omega), b1 20 (by omega) (by omega)]
        · rw [g1 21 (by omega), zup_ne (by omega), zup_ne (by omega), zup_ne (by omega), zup_ne (by omega), b1 21 (by omega) (by omega)]
      · rw [g1 c k3, zup_ne k2, zup_ne k2, zup_ne (by omega), zup_ne (by omega), b1 c (by omega) (by omega)]
      · rw [g1 52 (by omega), up_sl j2, up_sl j1, zup_ne (by omega), zup_ne (by omega), b1 52 (by omega) (by omega)]
    have sl : slN lt (m + 1) m = lt := by
      unfold slN
      omega
    have act := (x9 m (by omega)).2
    rw [sl] at act
    have it : ∀ {q : Nat} {K2 : Int32 → zF → Prop}, q < 63 → zSH q = (8, 24) → K2 (f q lt) f → ci mX6_itemOf [.ref q, .int (f 18 3)] f K2 := by
      intro q K2 h1 h2 h
      rw [x8]
      exact q_item (n := 24) h1 h2 (by omega) x2 h
    refine w_X6_undo ⟨fun _ => w_X0_latestSide (it (q := 19) (by decide) rfl ?_), fun c => absurd c (nz1 x6)⟩
    rcases act with ⟨a1, a2⟩ | ⟨sd, p, l, s1, s2, s3, a1, a2, a3, a4⟩
    · refine ⟨fun c => absurd a1 c, fun _ => q_turnOver hP ok (fun f1 b1 b2 => ?_)⟩
      rw [← a2] at b2
      exact tail f1 b1 b2
    · refine ⟨fun _ => w_X0_latestSide (it (q := 19) (by decide) rfl (w_X0_latestPlace (it (q := 20) (by decide) rfl (w_X0_latestLetter (it (q := 21) (by decide) rfl ?_))))), fun c => ?_⟩
      · rw [a1, a2, a3]
        refine q_putLetter hP ok s1 s2 (fun f1 b1 b2 => ?_)
        rw [← a4] at b2
        exact tail f1 b1 b2
      · rw [a1] at c
        exact absurd c (by rcases (show sd = 0 ∨ sd = 1 by omega) with rfl | rfl <;> decide)
