/-! ===== the pair page; all pairs; the start ===== -/
theorem dC_CP {f : zF} {A : aPg} (d : dC f A (pP A)) : CP f 6 A := ⟨d.1, d.2.1, d.2.2.1, d.2.2.2.1, fun p hp => ⟨d.2.2.2.2.1 p hp, d.2.2.2.2.2 p hp⟩⟩
theorem p_page : ∀ (f : zF), Inv f → pr2 Inv mX6_page mX7_page [] f := by
  intro f hI K hK
  obtain ⟨N, hN, t1, t2, t3⟩ := hI.2.1
  obtain ⟨β, hb⟩ : ∃ β : Nat → Nat, ∀ j, j < N → β j < 256 ∧ f 5 j = nI (β j) := by
    refine ⟨fun j => (f 5 j).toNatClampNeg, fun j hj => ?_⟩
    obtain ⟨-, b, b1, b2⟩ := t3 j hj
    show (f 5 j).toNatClampNeg < 256 ∧ f 5 j = nI ((f 5 j).toNatClampNeg)
    rw [b2, nI_clamp (by omega)]
    exact ⟨b1, rfl⟩
  have hβ : ∀ j, j < N → β j < 256 := fun j hj => (hb j hj).1
  have h59 : ∀ j, j < N → f 59 j = nI (β j) := fun j hj => (t3 j hj).1.symm.trans (hb j hj).2
  refine w_X6_page (c_page hN hβ t1 (fun j hj => (hb j hj).2) ?_)
  cases er : rPag β N with
  | inl e =>
    refine fun f1 h1 => y0' ?_
    obtain ⟨a1, a2, a3, a4⟩ := h1
    rw [a3]
    refine m_page hN hβ (by rw [a1 52 (by omega) (by omega) (by omega)]; exact t2) (fun j hj => by rw [a1 59 (by omega) (by omega) (by omega)]; exact h59 j hj) ?_
    rw [er]
    refine fun f2 h2 => hK _ _ ?_
    have e1 : ∀ c, c ≠ 52 → c ≠ 57 → (zup f2 52 11 (nI e.1)) c = f1 c := fun c c1 c2 => by
      rw [zup_ne c1, h2.1 c c1 c2, zup_ne c1, zup_ne c1, zup_ne c1, zup_ne c1, zup_ne c1]
    have ec : ∀ c, c ≠ 52 → c ≠ 57 → c ≠ 3 → c ≠ 4 → (c < 6 ∨ 11 < c) → (zup f2 52 11 (nI e.1)) c = f c := fun c c1 c2 c3 c4 c5 => by
      rw [e1 c c1 c2]
      exact a1 c c3 c4 c5
    have es : ∀ j, j ≠ 0 → j ≠ 10 → j ≠ 11 → (j < 12 ∨ 18 < j) → (zup f2 52 11 (nI e.1)) 52 j = f 52 j := fun j j1 j2 j3 j4 => by
      rw [up_sl j3, h2.2 j (by omega), up_sl (by omega), up_sl (by omega), up_sl j2, up_sl (by omega), up_sl j1, a1 52 (by omega) (by omega) (by omega)]
    obtain ⟨i1, i2, i3, i4, i5, i6, i7⟩ := hI
    refine ⟨iRows_eq (fun c hc => ec c (by omega) (by omega) (by omega) (by omega) (by omega)) i1, ⟨0, by omega, ?_, ?_, fun j hj => absurd hj (by omega)⟩, iPg_eq (fun c hc => ec c (by omega) (by omega) (by omega) (by omega) (by omega)) (es 8 (by omega) (by omega) (by omega) (by omega)) i3, iImg_eq (fun c hc => ec c (by omega) (by omega) (by omega) (by omega) (by omega)) i4, iTr_eq (ec 22 (by omega) (by omega) (by omega) (by omega) (by omega)) (ec 23 (by omega) (by omega) (by omega) (by omega) (by omega)) (ec 62 (by omega) (by omega) (by omega) (by omega) (by omega)) (es 24 (by omega) (by omega) (by omega) (by omega)) i5, ?_, ?_⟩
    · rw [e1 4 (by omega) (by omega)]
      exact a4
    · rw [up_sl (by omega), h2.2 10 (by omega), up_sl (by omega), up_sl (by omega), up_at]
      rfl
    · rw [ec 0 (by omega) (by omega) (by omega) (by omega) (by omega), es 1 (by omega) (by omega) (by omega) (by omega)]
      exact i6
    · rw [e1 3 (by omega) (by omega), up_at]
      exact a2
  | inr S =>
    refine fun f1 a1 a2 a4 d okd => y1' ?_
    have ok := okD_pg okd
    refine q_takeAll pg12 pg6 (by omega) ok (dC_CP d) (fun f2 b1 b2 => w_X0_forgetAll ?_)
    have r12 : (zup f2 18 4 0) 12 2 = nI (pP S.2) := by rw [zup_ne (by omega)]; exact b2.2.2.1
    rw [r12]
    have g3 : ∀ c, c ≠ 18 → (c < 12 ∨ 17 < c) → (zup f2 18 4 0) c = f1 c := fun c c1 c2 => by rw [zup_ne c1, b1 c (by omega)]
    refine m_page hN hβ (by rw [g3 52 (by omega) (by omega), a1 52 (by omega) (by omega) (by omega)]; exact t2) (fun j hj => by rw [g3 59 (by omega) (by omega), a1 59 (by omega) (by omega) (by omega)]; exact h59 j hj) ?_
    rw [er]
    refine fun f4 h1 h2 h8 okp hM => hK _ _ ?_
    have e1 : ∀ c, c ≠ 52 → c ≠ 56 → c ≠ 57 → f4 c = (zup f2 18 4 0) c := fun c c1 c2 c3 => by
      rw [h1 c c1 c2 c3, zup_ne c1, zup_ne c1, zup_ne c1, zup_ne c1, zup_ne c1]
    have ec : ∀ c, c ≠ 52 → c ≠ 56 → c ≠ 57 → c ≠ 3 → c ≠ 4 → (c < 6 ∨ 18 < c) → f4 c = f c := fun c c1 c2 c3 c4 c5 c6 => by
      rw [e1 c c1 c2 c3, g3 c (by omega) (by omega)]
      exact a1 c c4 c5 (by omega)
    have es : ∀ j, j ≠ 0 → j ≠ 8 → j ≠ 10 → (j < 12 ∨ 18 < j) → f4 52 j = f 52 j := fun j j1 j2 j3 j4 => by
      rw [h2 j j2 (by omega), up_sl (by omega), up_sl (by omega), up_sl j3, up_sl (by omega), up_sl j1, g3 52 (by omega) (by omega), a1 52 (by omega) (by omega) (by omega)]
    obtain ⟨H, na, lt, x1, x2, x3, x4, x5, x6, x7, x8, x9⟩ := hI.2.2.1
    obtain ⟨i1, i2, i3, i4, i5, i6, i7⟩ := hI
    refine ⟨iRows_eq (fun c hc => ec c (by omega) (by omega) (by omega) (by omega) (by omega) (by omega)) i1, ⟨0, by omega, ?_, ?_, fun j hj => absurd hj (by omega)⟩, iPg_new (A := S.2) (lt := lt) ok (CP_eq (f := f2) (fun q h1 h2 => by rw [e1 q (by omega) (by omega) (by omega), zup_ne (by omega)]) b2) hM ?_ (by rw [h8]; rfl) ?_ x2, iImg_eq (fun c hc => ec c (by omega) (by omega) (by omega) (by omega) (by omega) (by omega)) i4, iTr_eq (ec 22 (by omega) (by omega) (by omega) (by omega) (by omega) (by omega)) (ec 23 (by omega) (by omega) (by omega) (by omega) (by omega) (by omega)) (ec 62 (by omega) (by omega) (by omega) (by omega) (by omega) (by omega)) (es 24 (by omega) (by omega) (by omega) (by omega)) i5, ?_, ?_⟩
    · rw [e1 4 (by omega) (by omega) (by omega), g3 4 (by omega) (by omega)]
      exact a4
    · rw [h2 10 (by omega) (by omega), up_sl (by omega), up_sl (by omega), up_at]
      rfl
    · rw [e1 18 (by omega) (by omega) (by omega), up_at]
      rfl
    · rw [e1 18 (by omega) (by omega) (by omega), up_sl (by omega), b1 18 (by omega), a1 18 (by omega) (by omega) (by omega)]
      exact x8
    · rw [ec 0 (by omega) (by omega) (by omega) (by omega) (by omega) (by omega), es 1 (by omega) (by omega) (by omega) (by omega)]
      exact i6
    · rw [e1 3 (by omega) (by omega) (by omega), g3 3 (by omega) (by omega), a2, es 11 (by omega) (by omega) (by omega) (by omega)]
      exact i7
theorem pairs_all : zPairs Inv := ⟨p_row, p_set, p_copy, p_drop, p_feed, p_page, p_fault, p_write, p_turn, p_undo, p_at, p_letter, p_light, p_damp, p_read, p_behind, p_ways, p_anew, p_fits, p_harm, p_leastHarm, p_safe, p_over, p_image, p_restore, p_kind, p_as, p_ask, p_trace, p_count, p_status⟩
set_option maxRecDepth 20000 in
theorem zf0_rows : ∀ i, i < 8 → zf0 (24 + 2 * i) 1 = -1 ∧ zf0 53 i = -1 ∧ ∀ j, j < 40 → zf0 (24 + 2 * i + 1) j = zf0 55 (40 * i + j) := by decide +kernel
set_option maxRecDepth 20000 in
theorem zf0_pgs : ∀ k, k < 2 → zf0 (40 + 6 * k) 0 = nI 0 ∧ zf0 (40 + 6 * k) 1 = nI 0 ∧ zf0 (40 + 6 * k) 2 = nI 0 ∧ zf0 60 k = 0 := by decide +kernel
set_option maxRecDepth 20000 in
theorem zf0_rest : zf0 4 1 = nI 0 ∧ zf0 52 10 = nI 0 ∧ zf0 12 0 = nI 0 ∧ zf0 12 1 = nI 0 ∧ zf0 12 2 = nI 0 ∧ zf0 56 0 = nI 0 ∧ zf0 56 1 = nI 0 ∧ zf0 56 2 = nI 0 ∧ zf0 18 4 = nI 0 ∧ zf0 52 8 = nI 0 ∧ zf0 18 3 = nI 0 ∧ zf0 22 1 = nI 0 ∧ zf0 52 24 = nI 0 ∧ zf0 0 6 = zf0 52 1 ∧ zf0 3 2 = zf0 52 11 := by decide +kernel
def A00 : aPg := (0, 0, 0, fun _ => 0, fun _ => 0, fun _ => 0, fun _ => 0)
theorem ok00 : okPg A00 := ⟨by show 0 ≤ 9; omega, by show 0 ≤ 8; omega, by show 0 ≤ 9; omega, fun l hl => absurd hl (by show ¬ l < 0; omega), fun p hp => absurd hp (by show ¬ p < 0; omega)⟩
theorem Inv_start : Inv zf0 := by
  obtain ⟨r1, r2, r3, r4, r5, r6, r7, r8, r9, r10, r11, r12, r13, r14, r15⟩ := zf0_rest
  refine ⟨fun i hi => ?_, ⟨0, by omega, r1, r2, fun j hj => absurd hj (by omega)⟩, iPg_new (A := A00) (lt := 0) ok00 ⟨r3, r4, r5, fun l hl => absurd hl (by show ¬ l < 0; omega), fun p hp => absurd hp (by show ¬ p < 0; omega)⟩ ⟨r6, r7, r8, fun l hl => absurd hl (by show ¬ l < 0; omega), fun p hp => absurd hp (by show ¬ p < 0; omega)⟩ r9 r10 r11 (by omega), fun k hk => ?_, ⟨0, by omega, r12, r13, fun j hj => absurd hj (by omega)⟩, r14, r15⟩
  · obtain ⟨a, b, c⟩ := zf0_rows i hi
    exact ⟨a.trans b.symm, Or.inl b, fun z => absurd b z, c⟩
  · obtain ⟨a, b, c, d⟩ := zf0_pgs k hk
    exact ⟨A00, ok00, ⟨a, b, c, fun l hl => absurd hl (by show ¬ l < 0; omega), fun p hp => absurd hp (by show ¬ p < 0; omega)⟩, Or.inl ⟨d, rfl⟩⟩
