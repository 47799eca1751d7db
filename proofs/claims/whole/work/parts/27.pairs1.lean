/-! ===== pairs: the page is asked ===== -/
theorem p_at : ∀ (a0 a1 : Int32) (f : zF), Inv f → pr2 Inv mX6_at mX7_at [.int a0, .int a1] f := by
  intro a0 a1 f hI K hK
  obtain ⟨A, ok, hP, hM⟩ := Inv_pg hI
  have fin : ∀ r f', nz f f' → K r r f' := fun r f' h => hK r f' (Inv_nz hI h)
  have hM0 := MP_nz (z0 f) hM
  have h9 := ok.2.2.1
  rcases inOut a0 (n := 2) (by omega) with h0 | ⟨s, hs, rfl⟩
  · exact w_X6_at (q_hasPlace_f hP (Or.inl h0) (y0 (w_X7_at (m_isSide_f h0 (y0 (fin _ _ (z0 f)))))))
  · rcases inOut a1 (n := pP A) (by omega) with h1 | ⟨p, hp, rfl⟩
    · exact w_X6_at (q_hasPlace_f hP (Or.inr h1) (y0 (w_X7_at (m_isSide_t hs (y1 (m_isPlace_f hM0 ok h1 (y0 (fin _ _ (z0 f)))))))))
    · exact w_X6_at (q_hasPlace_t hP ok hs hp (y1 (q_letterAt hP ok hs hp (w_X7_at (m_isSide_t hs (y1 (m_isPlace_t hM0 ok hp (y1 (m_on hM0 ok hs hp (fin _ _ (z0 f)))))))))))
theorem p_kind : ∀ (a0 : Int32) (f : zF), Inv f → pr2 Inv mX6_kind mX7_kind [.int a0] f := by
  intro a0 f hI K hK
  obtain ⟨A, ok, hP, hM⟩ := Inv_pg hI
  have fin : ∀ r f', nz f f' → K r r f' := fun r f' h => hK r f' (Inv_nz hI h)
  have hM0 := MP_nz (z0 f) hM
  have h8 := ok.2.1
  rcases inOut a0 (n := pL A) (by omega) with h0 | ⟨l, hl, rfl⟩
  · exact w_X6_kind (q_hasLetter_f hP h0 (y0 (w_X7_kind (m_isOne_f hM0 ok h0 (y0 (fin _ _ (z0 f)))))))
  · exact w_X6_kind (q_hasLetter_t hP ok hl (y1 (q_kindOf hP ok hl (w_X7_kind (m_isOne_t hM0 ok hl (y1 (m_kindOf hM0 ok hl (fin _ _ (z0 f)))))))))
theorem p_safe : ∀ (a0 : Int32) (f : zF), Inv f → pr2 Inv mX6_safe mX7_safe [.int a0] f := by
  intro a0 f hI K hK
  obtain ⟨A, ok, hP, hM⟩ := Inv_pg hI
  have fin : ∀ r f', nz f f' → K r r f' := fun r f' h => hK r f' (Inv_nz hI h)
  have hM0 := MP_nz (z0 f) hM
  have h8 := ok.2.1
  rcases inOut a0 (n := pL A) (by omega) with h0 | ⟨l, hl, rfl⟩
  · exact w_X6_safe (q_hasLetter_f hP h0 (y0 (w_X7_safe (m_isOne_f hM0 ok h0 (y0 (fin _ _ (z0 f)))))))
  · exact w_X6_safe (q_hasLetter_t hP ok hl (y1 (q_behindToRead hP ok hl (by omega) (w_X7_safe (m_isOne_t hM0 ok hl (y1 (m_behindBy hM0 ok hl (by omega) (fun f' h => fin _ _ (nz_trans (z0 f) h)))))))))
theorem p_fits : ∀ (a0 a1 : Int32) (f : zF), Inv f → pr2 Inv mX6_fits mX7_fits [.int a0, .int a1] f := by
  intro a0 a1 f hI K hK
  obtain ⟨A, ok, hP, hM⟩ := Inv_pg hI
  have fin : ∀ r f', nz f f' → K r r f' := fun r f' h => hK r f' (Inv_nz hI h)
  have hM0 := MP_nz (z0 f) hM
  have h9 := ok.2.2.1
  rcases inOut a0 (n := pP A) (by omega) with h0 | ⟨p, hp, rfl⟩
  · exact w_X6_fits (q_hasPlace_f hP (Or.inr h0) (y0 (w_X7_fits (fun X hX => m_isPlace_f hM0 ok h0 (y0 (fin _ _ (z0 f)))))))
  · rcases inOut a1 (n := 512) (by omega) with h1 | ⟨c, hc, rfl⟩
    · exact w_X6_fits (q_hasPlace_t (s := 0) hP ok (by omega) hp (y1 (q_areCells_f h1 (y0 (w_X7_fits (fun X hX => m_isPlace_t hM0 ok hp (y1 (m_in0_f h1 (by omega) rfl (y0' (fin _ _ (z0 f)))))))))))
    · exact w_X6_fits (q_hasPlace_t (s := 0) hP ok (by omega) hp (y1 (q_areCells_t hc (y1 (q_fitting hP ok hp hc (w_X7_fits (fun X hX => m_isPlace_t hM0 ok hp (y1 (m_in0_t hc (by omega) rfl (y1' (m_fits_loop hM0 ok hp hc hX (fin _ _ (z0 f)))))))))))))
theorem p_letter : ∀ (a0 a1 : Int32) (f : zF), Inv f → pr2 Inv mX6_letter mX7_letter [.int a0, .int a1] f := by
  intro a0 a1 f hI K hK
  obtain ⟨A, ok, hP, hM⟩ := Inv_pg hI
  have fin : ∀ r f', nz f f' → K r r f' := fun r f' h => hK r f' (Inv_nz hI h)
  have hM0 := MP_nz (z0 f) hM
  have h8 := ok.2.1
  rcases inOut a0 (n := pL A) (by omega) with h0 | ⟨l, hl, rfl⟩
  · exact w_X6_letter (q_hasLetter_f hP h0 (y0' (w_X7_letter (m_isOne_f hM0 ok h0 (y0 (fin _ _ (z0 f)))))))
  · refine w_X6_letter (q_hasLetter_t hP ok hl (y1' ?_))
    have hE := pE_lt ok hl
    rcases inOut a1 (n := 3) (by omega) with h1 | ⟨w, hw, rfl⟩
    · have hb : ∀ k : Nat, k < 3 → ¬ a1 = nI k := by
        intro k hk e
        rw [e] at h1
        have := outI_toInt (by omega) h1
        rw [nI_toInt (by omega)] at this
        omega
      refine ⟨fun c => absurd c (hb 0 (by omega)), fun c => absurd c (hb 1 (by omega)), fun c => absurd c (hb 2 (by omega)), fun _ _ _ => ?_⟩
      exact w_X7_letter (m_isOne_t hM0 ok hl (y1 (m_in0_f h1 (by omega) rfl (y0' (fin _ _ (z0 f))))))
    · rcases (show w = 0 ∨ w = 1 ∨ w = 2 by omega) with rfl | rfl | rfl
      · refine ⟨fun _ => q_cellsOf hP ok hl ?_, fun c => absurd c (by decide), fun c => absurd c (by decide), fun c => absurd rfl c⟩
        exact w_X7_letter (m_isOne_t hM0 ok hl (y1 (m_in0_t hw (by omega) rfl (y1' ⟨fun c => absurd rfl c, fun _ => m_cellsOf hM0 ok hl (fin _ _ (z0 f))⟩))))
      · refine ⟨fun c => absurd c (by decide), fun _ => q_cellsOf hP ok hl (q_turned hE ?_), fun c => absurd c (by decide), fun _ c => absurd rfl c⟩
        exact w_X7_letter (m_isOne_t hM0 ok hl (y1 (m_in0_t hw (by omega) rfl (y1' ⟨fun _ => ⟨fun c => absurd rfl c, fun _ => m_cellsOf hM0 ok hl (m_turned hE (fin _ _ (z0 f)))⟩, fun c => absurd c (by decide)⟩))))
      · refine ⟨fun c => absurd c (by decide), fun c => absurd c (by decide), fun _ => q_throughOf hP ok hl ?_, fun _ _ c => absurd rfl c⟩
        exact w_X7_letter (m_isOne_t hM0 ok hl (y1 (m_in0_t hw (by omega) rfl (y1' ⟨fun _ => ⟨fun _ => m_throughOf hM0 ok hl (fin _ _ (z0 f)), fun c => absurd c (by decide)⟩, fun c => absurd c (by decide)⟩))))
theorem out_ne {x : Int32} {n : Nat} (hn : n < 2 ^ 31) (h : outI x n) (k : Nat) (hk : k < n) : ¬ x = nI k := by
  intro e
  rw [e] at h
  have := outI_toInt hn h
  rw [nI_toInt (by omega)] at this
  omega
theorem q_cor {f : zF} {K : Int32 → zF → Prop} {A : aPg} (hP : CP f 12 A) (ok : okPg A) {c w : Nat} (hc : c < 512) (hw : w < 2) (h : K (nI (if w = 0 then c else pNr A c)) f) : ci mX6_cellsOrReading [.ref 0, .int (nI c), .int (nI w)] f K := by
  rcases (show w = 0 ∨ w = 1 by omega) with rfl | rfl
  · exact w_X6_cellsOrReading ⟨fun _ => h, fun c => absurd c (by decide), fun c => absurd rfl c⟩
  · exact w_X6_cellsOrReading ⟨fun c => absurd c (by decide), fun _ => q_nearest hP ok hc h, fun _ c => absurd rfl c⟩
theorem q_cor_f {f : zF} {K : Int32 → zF → Prop} {x y : Int32} (hy : outI y 2) (h : K (-1000001) f) : ci mX6_cellsOrReading [.ref 0, .int x, .int y] f K :=
  w_X6_cellsOrReading ⟨fun c => absurd c (out_ne (by omega) hy 0 (by omega)), fun c => absurd c (out_ne (by omega) hy 1 (by omega)), fun _ _ => h⟩
theorem p_over : ∀ (a0 a1 a2 : Int32) (f : zF), Inv f → pr2 Inv mX6_over mX7_over [.int a0, .int a1, .int a2] f := by
  intro a0 a1 a2 f hI K hK
  obtain ⟨A, ok, hP, hM⟩ := Inv_pg hI
  have fin : ∀ r f', nz f f' → K r r f' := fun r f' h => hK r f' (Inv_nz hI h)
  have hM0 := MP_nz (z0 f) hM
  have h8 := ok.2.1
  rcases inOut a0 (n := pL A) (by omega) with h0 | ⟨l, hl, rfl⟩
  · exact w_X6_over (q_hasLetter_f hP h0 (y0 (w_X7_over (m_isOne_f hM0 ok h0 (y0 (fin _ _ (z0 f)))))))
  · rcases inOut a1 (n := pL A) (by omega) with h1 | ⟨k, hk, rfl⟩
    · exact w_X6_over (q_hasLetter_t hP ok hl (y1 (q_hasLetter_f hP h1 (y0' (w_X7_over (m_isOne_t hM0 ok hl (y1 (m_isOne_f hM0 ok h1 (y0 (fin _ _ (z0 f)))))))))))
    · refine w_X6_over (q_hasLetter_t hP ok hl (y1 (q_hasLetter_t hP ok hk (y1' (q_cellsOf hP ok hl (q_cellsOf hP ok hk ?_))))))
      have hs := sp_or_lt (pE_lt ok hl) (pE_lt ok hk)
      rw [sp_or]
      rcases inOut a2 (n := 2) (by omega) with h2 | ⟨w, hw, rfl⟩
      · exact q_cor_f h2 (w_X7_over (m_isOne_t hM0 ok hl (y1 (m_isOne_t hM0 ok hk (y1 (m_in0_f h2 (by omega) rfl (y0' (fin _ _ (z0 f)))))))))
      · refine q_cor hP ok hs hw (w_X7_over (m_isOne_t hM0 ok hl (y1 (m_isOne_t hM0 ok hk (y1 (m_in0_t hw (by omega) rfl (y1' (m_cellsOf hM0 ok hl (m_cellsOf hM0 ok hk ?_)))))))))
        rw [sp_or]
        rcases (show w = 0 ∨ w = 1 by omega) with rfl | rfl
        · exact ⟨fun c => absurd rfl c, fun _ => fin _ _ (z0 f)⟩
        · exact ⟨fun _ => m_readOf hM0 ok (by omega) hs (fun f' h _ _ => fin _ _ (nz_trans (z0 f) h)), fun c => absurd c (by decide)⟩
