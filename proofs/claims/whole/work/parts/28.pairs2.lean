/-! ===== pairs: light, damp, read, kinds ===== -/
theorem sub1_ne {x k : Int32} (h : ¬ x = k + 1) : ¬ x - 1 = k := fun e => h (by rw [← e, Int32.sub_add_cancel])
def anR (A : aPg) (c w : Nat) : Int32 := if w = 0 then nI (pNr A c) else if w = 1 then nI (pLo A c) else if 1 < pCt A c then 1 else 0
theorem q_an {f : zF} {K : Int32 → zF → Prop} {A : aPg} (hP : CP f 12 A) (ok : okPg A) (h0 : 0 < pL A) {c w : Nat} (hc : c < 512) (hw : w < 3) (h : K (anR A c w) f) : ci mX6_answerOfReading [.ref 0, .int (nI c), .int (nI w)] f K := by
  unfold anR at h
  rcases (show w = 0 ∨ w = 1 ∨ w = 2 by omega) with rfl | rfl | rfl
  · exact w_X6_answerOfReading ⟨fun _ => q_nearest hP ok hc h, fun c => absurd c (by decide), fun c => absurd c (by decide), fun c => absurd rfl c⟩
  · exact w_X6_answerOfReading ⟨fun c => absurd c (by decide), fun _ => q_leastOff hP ok h0 hc h, fun c => absurd c (by decide), fun _ c => absurd rfl c⟩
  · refine w_X6_answerOfReading ⟨fun c => absurd c (by decide), fun c => absurd c (by decide), fun _ => q_isDoubt hP ok h0 hc ?_, fun _ _ c => absurd rfl c⟩
    rw [if_neg (by omega), if_neg (by omega)] at h
    by_cases q : 1 < pCt A c
    · rw [if_pos q] at h ⊢
      exact y1 h
    · rw [if_neg q] at h ⊢
      exact y0 h
theorem q_an_f {f : zF} {K : Int32 → zF → Prop} {x y : Int32} (h0 : ¬ y = nI 0) (h1 : ¬ y = nI 1) (h2 : ¬ y = nI 2) (h : K (-1000001) f) : ci mX6_answerOfReading [.ref 0, .int x, .int y] f K :=
  w_X6_answerOfReading ⟨fun c => absurd c h0, fun c => absurd c h1, fun c => absurd c h2, fun _ _ _ => h⟩
/-- the reference's tail of a reading -/
theorem m_an {f : zF} {K : Int32 → zF → Prop} {A : aPg} {c : Nat} (ok : okPg A) (e20 : f 52 20 = nI (pCt A c)) (h : K (if 1 < pCt A c then 1 else 0) f) : ((f 52 20) ≤ 1 → K 0 f) ∧ (¬ (f 52 20) ≤ 1 → K 1 f) := by
  have hc : pCt A c ≤ 8 := Nat.le_trans (ctD_le _ _ _) ok.2.1
  rw [e20]
  refine ⟨fun q => ?_, fun q => ?_⟩
  · have := (nI_leI (b := 1) (by omega) (by omega)).mp q
    rw [if_neg (by omega)] at h
    exact h
  · by_cases z : 1 < pCt A c
    · rw [if_pos z] at h
      exact h
    · exact absurd (nI_le (b := 1) (by omega) (by omega)) q
theorem p_light : ∀ (a0 a1 a2 : Int32) (f : zF), Inv f → pr2 Inv mX6_light mX7_light [.int a0, .int a1, .int a2] f := by
  intro a0 a1 a2 f hI K hK
  obtain ⟨A, ok, hP, hM⟩ := Inv_pg hI
  have fin : ∀ r f', nz f f' → K r r f' := fun r f' h => hK r f' (Inv_nz hI h)
  have hM0 := MP_nz (z0 f) hM
  have h9 := ok.2.2.1
  rcases inOut a0 (n := 2) (by omega) with h0 | ⟨s, hs, rfl⟩
  · exact w_X6_light (q_hasPlace_f hP (Or.inl h0) (y0' (w_X7_light (m_isSide_f h0 (y0 (fin _ _ (z0 f)))))))
  · rcases inOut a1 (n := pP A) (by omega) with h1 | ⟨p, hp, rfl⟩
    · exact w_X6_light (q_hasPlace_f hP (Or.inr h1) (y0' (w_X7_light (m_isSide_t hs (y1 (m_isPlace_f hM0 ok h1 (y0 (fin _ _ (z0 f)))))))))
    · have hL := pP_L ok hp
      have hli := pLi_lt ok (s := s) hp
      refine w_X6_light (q_hasPlace_t hP ok hs hp (y1' (q_shownByLight hP ok hs hp ?_)))
      rcases inOut a2 (n := 4) (by omega) with h2 | ⟨w, hw, rfl⟩
      · refine ⟨fun _ => q_an_f (sub1_ne (out_ne (by omega) h2 1 (by omega))) (sub1_ne (out_ne (by omega) h2 2 (by omega))) (sub1_ne (out_ne (by omega) h2 3 (by omega))) ?_, fun c => absurd c (out_ne (by omega) h2 0 (by omega))⟩
        exact w_X7_light (m_isSide_t hs (y1 (m_isPlace_t hM0 ok hp (y1 (m_in0_f h2 (by omega) rfl (y0' (fin _ _ (z0 f))))))))
      · have tail : ∀ K2 : Int32 → zF → Prop, (∀ f', nz f f' → f' 52 19 = nI (pLo A (pLi A s p)) → f' 52 20 = nI (pCt A (pLi A s p)) → ((¬ nI w = 0 → ((¬ nI w = 1 → ((¬ nI w = 2 → (((f' 52 20) ≤ 1 → K2 0 f') ∧ (¬ (f' 52 20) ≤ 1 → K2 1 f'))) ∧ (nI w = 2 → K2 (f' 52 19) f'))) ∧ (nI w = 1 → K2 (nI (pNr A (pLi A s p))) f'))) ∧ (nI w = 0 → K2 (nI (pLi A s p)) f'))) → ci mX7_light [.ref 52, .int (nI s), .int (nI p), .int (nI w)] f K2 := by
          intro K2 hk
          refine w_X7_light (m_isSide_t hs (y1 (m_isPlace_t hM0 ok hp (y1 (m_in0_t hw (by omega) rfl (y1' (m_on hM0 ok hs hp (m_cellsOf hM0 ok (pS_lt ok hp) (m_behindOf hM0 ok hs hp (m_throughOf hM0 ok (pS_lt ok (by omega)) ?_)))))))))) 
          rw [sp_or, show (pE A (pS A s p) ||| pT A (pS A (1 - s) (pP A - 1 - p))) = pLi A s p from rfl]
          exact m_readOf hM0 ok hL hli (fun f' hf e1 e2 => hk f' (nz_trans (z0 f) hf) e1 e2)
        rcases (show w = 0 ∨ w = 1 ∨ w = 2 ∨ w = 3 by omega) with rfl | rfl | rfl | rfl
        · exact ⟨fun c => absurd rfl c, fun _ => tail _ (fun f' hf _ _ => ⟨fun c => absurd rfl c, fun _ => fin _ _ hf⟩)⟩
        · refine ⟨fun _ => q_an (w := 0) hP ok hL hli (by omega) (tail _ (fun f' hf _ _ => ⟨fun _ => ⟨fun c => absurd rfl c, fun _ => fin _ _ hf⟩, fun c => absurd c (by decide)⟩)), fun c => absurd c (by decide)⟩
        · refine ⟨fun _ => q_an (w := 1) hP ok hL hli (by omega) (tail _ (fun f' hf e1 _ => ⟨fun _ => ⟨fun _ => ⟨fun c => absurd rfl c, fun _ => by rw [e1]; exact fin _ _ hf⟩, fun c => absurd c (by decide)⟩, fun c => absurd c (by decide)⟩)), fun c => absurd c (by decide)⟩
        · refine ⟨fun _ => q_an (w := 2) hP ok hL hli (by omega) (tail _ (fun f' hf _ e2 => ⟨fun _ => ⟨fun _ => ⟨fun _ => m_an ok e2 (fin _ _ hf), fun c => absurd c (by decide)⟩, fun c => absurd c (by decide)⟩, fun c => absurd c (by decide)⟩)), fun c => absurd c (by decide)⟩
theorem p_read : ∀ (a0 a1 : Int32) (f : zF), Inv f → pr2 Inv mX6_read mX7_read [.int a0, .int a1] f := by
  intro a0 a1 f hI K hK
  obtain ⟨A, ok, hP, hM⟩ := Inv_pg hI
  have fin : ∀ r f', nz f f' → K r r f' := fun r f' h => hK r f' (Inv_nz hI h)
  have hM0 := MP_nz (z0 f) hM
  rcases Nat.eq_zero_or_pos (pL A) with hL | hL
  · exact w_X6_read (q_isThere_f hP hL (y0' (w_X7_read (m_isThere_f hM0 hL (y0' (fin _ _ (z0 f)))))))
  · refine w_X6_read (q_isThere_t hP ok hL (y1' ?_))
    rcases inOut a0 (n := 512) (by omega) with h0 | ⟨c, hc, rfl⟩
    · exact q_areCells_f h0 (y0 (w_X7_read (m_isThere_t hM0 ok hL (y1' (m_in0_f h0 (by omega) rfl (y0 (fin _ _ (z0 f))))))))
    · refine q_areCells_t hc (y1 ?_)
      rcases inOut a1 (n := 3) (by omega) with h2 | ⟨w, hw, rfl⟩
      · refine q_an_f (out_ne (by omega) h2 0 (by omega)) (out_ne (by omega) h2 1 (by omega)) (out_ne (by omega) h2 2 (by omega)) ?_
        exact w_X7_read (m_isThere_t hM0 ok hL (y1' (m_in0_t hc (by omega) rfl (y1 (m_in0_f h2 (by omega) rfl (y0' (fin _ _ (z0 f))))))))
      · refine q_an hP ok hL hc hw ?_
        refine w_X7_read (m_isThere_t hM0 ok hL (y1' (m_in0_t hc (by omega) rfl (y1 (m_in0_t hw (by omega) rfl (y1' (m_readOf hM0 ok hL hc (fun f' hf e1 e2 => ?_))))))))
        have hf := nz_trans (z0 f) hf
        rcases (show w = 0 ∨ w = 1 ∨ w = 2 by omega) with rfl | rfl | rfl
        · exact ⟨fun c => absurd rfl c, fun _ => fin _ _ hf⟩
        · exact ⟨fun _ => ⟨fun c => absurd rfl c, fun _ => by rw [e1]; exact fin _ _ hf⟩, fun c => absurd c (by decide)⟩
        · exact ⟨fun _ => ⟨fun _ => m_an ok e2 (fin _ _ hf), fun c => absurd c (by decide)⟩, fun c => absurd c (by decide)⟩
def fromN (A : aPg) (b : Nat) : Nat := if pK A b = 2 then 0 else if pK A b = 3 then 2 * pD A else pD A
def pDm (A : aPg) (s p t : Nat) : Nat := if fromN A (pS A (1 - s) (pP A - 1 - p)) ≤ t then pLi A s p else pE A (pS A s p)
theorem fromN_le {A : aPg} (ok : okPg A) (b : Nat) : fromN A b ≤ 18 := by
  have := ok.1
  unfold fromN
  split
  · omega
  · split <;> omega
theorem q_shownByDamp {f : zF} {K : Int32 → zF → Prop} {A : aPg} (hP : CP f 12 A) (ok : okPg A) {s p t : Nat} (hs : s < 2) (hp : p < pP A) (ht : t ≤ 30) (h : K (nI (pDm A s p t)) f) : ci mX2_shownByDamp [.ref 12, .int (nI s), .int (nI p), .int (nI t)] f K := by
  have hb : pS A (1 - s) (pP A - 1 - p) < pL A := pS_lt ok (by omega)
  have ha := pS_lt ok (s := s) hp
  have hk := (ok.2.2.2.1 _ hb).2.1
  refine w_X2_shownByDamp pg12 (q_letterBehind hP ok hs hp (q_kindOf hP ok hb (fun z1 e1 => q_letterAt hP ok hs hp ?_)))
  have hfr := fromN_le ok (pS A (1 - s) (pP A - 1 - p))
  have e : z1 = nI (fromN A (pS A (1 - s) (pP A - 1 - p))) := by
    rw [e1, hP.1]
    unfold fromN
    by_cases q2 : pK A (pS A (1 - s) (pP A - 1 - p)) = 2
    · rw [if_pos q2, if_pos (by rw [q2]; rfl)]; rfl
    · rw [if_neg q2, if_neg (fun z => q2 ((nI_lit (b := 2) (c := 2) (by omega) (by omega) rfl).mp z))]
      by_cases q3 : pK A (pS A (1 - s) (pP A - 1 - p)) = 3
      · rw [if_pos q3, if_pos (by rw [q3]; rfl)]
        exact pk_mul 2 (pD A)
      · rw [if_neg q3, if_neg (fun z => q3 ((nI_lit (b := 3) (c := 3) (by omega) (by omega) rfl).mp z))]
  rw [e]
  unfold pDm at h
  refine ⟨fun q => ?_, fun q => ?_⟩
  · rw [if_neg (by have := (nI_ltI (by omega) (by omega)).mp q; omega)] at h
    exact q_cellsOf hP ok ha h
  · rw [if_pos (by
      apply Nat.le_of_not_lt
      intro z
      exact q (nI_lt z (by omega)))] at h
    exact q_shownOf hP ok ha hb h
theorem p_damp : ∀ (a0 a1 a2 a3 : Int32) (f : zF), Inv f → pr2 Inv mX6_damp mX7_damp [.int a0, .int a1, .int a2, .int a3] f := by
  intro a0 a1 a2 a3 f hI K hK
  obtain ⟨A, ok, hP, hM⟩ := Inv_pg hI
  have fin : ∀ r f', nz f f' → K r r f' := fun r f' h => hK r f' (Inv_nz hI h)
  have hM0 := MP_nz (z0 f) hM
  have h9 := ok.2.2.1
  rcases inOut a0 (n := 2) (by omega) with h0 | ⟨s, hs, rfl⟩
  · exact w_X6_damp (q_hasPlace_f hP (Or.inl h0) (y0 (w_X7_damp (m_isSide_f h0 (y0 (fin _ _ (z0 f)))))))
  · rcases inOut a1 (n := pP A) (by omega) with h1 | ⟨p, hp, rfl⟩
    · exact w_X6_damp (q_hasPlace_f hP (Or.inr h1) (y0 (w_X7_damp (m_isSide_t hs (y1 (m_isPlace_f hM0 ok h1 (y0 (fin _ _ (z0 f)))))))))
    · have hL := pP_L ok hp
      refine w_X6_damp (q_hasPlace_t hP ok hs hp (y1 ?_))
      rcases inOut a2 (n := 31) (by omega) with h2 | ⟨t, ht, rfl⟩
      · have e : ci mX7_damp [.ref 52, .int (nI s), .int (nI p), .int a2, .int a3] f (fun r2 f2 => K (-1000001) r2 f2) := w_X7_damp (m_isSide_t hs (y1 (m_isPlace_t hM0 ok hp (y1 (m_in0_f h2 (by omega) rfl (y0 (fin _ _ (z0 f))))))))
        refine ⟨fun _ => e, fun c => ⟨fun c2 => ?_, fun _ => e⟩⟩
        exact (Int32.lt_irrefl (Int32.lt_of_lt_of_le (outI_512 (n := 30) (by omega) h2 c) c2)).elim
      · refine ⟨fun c => absurd c (nI_pos (by omega)), fun _ => ⟨fun _ => ?_, fun c => absurd (nI_le (a := t) (b := 30) (by omega) (by omega)) c⟩⟩
        refine q_shownByDamp hP ok hs hp (by omega) ?_
        have hb : pS A (1 - s) (pP A - 1 - p) < pL A := pS_lt ok (by omega)
        have ha := pS_lt ok (s := s) hp
        have hk := (ok.2.2.2.1 _ hb).2.1
        have hfr := fromN_le ok (pS A (1 - s) (pP A - 1 - p))
        have hD := ok.1
        have hdm : pDm A s p t < 512 := by
          unfold pDm
          split
          · exact pLi_lt ok hp
          · exact pE_lt ok ha
        rcases inOut a3 (n := 2) (by omega) with h3 | ⟨w, hw, rfl⟩
        · exact q_cor_f h3 (w_X7_damp (m_isSide_t hs (y1 (m_isPlace_t hM0 ok hp (y1 (m_in0_t ht (by omega) rfl (y1 (m_in0_f h3 (by omega) rfl (y0' (fin _ _ (z0 f))))))))))) 
        · refine q_cor hP ok hdm hw ?_
          have tail : ∀ (g : Nat) (c : Int32), c = nI (pDm A s p t) → ((¬ nI w = 0 → ci mX7_readOf [.ref 52, .int c] (zup f 52 0 0) (fun r11 f11 => K (nI (if w = 0 then pDm A s p t else pNr A (pDm A s p t))) r11 f11)) ∧ (nI w = 0 → K (nI (if w = 0 then pDm A s p t else pNr A (pDm A s p t))) c (zup f 52 0 0))) := by
            intro _ c e
            subst e
            rcases (show w = 0 ∨ w = 1 by omega) with rfl | rfl
            · exact ⟨fun c => absurd rfl c, fun _ => fin _ _ (z0 f)⟩
            · exact ⟨fun _ => m_readOf hM0 ok hL hdm (fun f' h _ _ => fin _ _ (nz_trans (z0 f) h)), fun c => absurd c (by decide)⟩
          have hsh : nI (pE A (pS A s p)) ||| nI (pT A (pS A (1 - s) (pP A - 1 - p))) = nI (pLi A s p) := sp_or _ _
          have hD0 : (zup f 52 0 0) 56 0 = nI (pD A) := by rw [zup_ne (by omega)]; exact hM.1
          have both : ∀ x : Int32, x = nI (fromN A (pS A (1 - s) (pP A - 1 - p))) → ∀ W1 W0 : Prop, (pDm A s p t = pLi A s p → W1) → (pDm A s p t = pE A (pS A s p) → W0) → ((x ≤ nI t → W1) ∧ (¬ x ≤ nI t → W0)) := by
            intro x e W1 W0 k1 k0
            subst e
            refine ⟨fun q => k1 ?_, fun q => k0 ?_⟩
            · unfold pDm
              exact if_pos ((nI_leI (by omega) (by omega)).mp q)
            · unfold pDm
              exact if_neg (fun z => q (nI_le z (by omega)))
          refine w_X7_damp (m_isSide_t hs (y1 (m_isPlace_t hM0 ok hp (y1 (m_in0_t ht (by omega) rfl (y1 (m_in0_t hw (by omega) rfl (y1' (m_behindOf hM0 ok hs hp (m_kindOf hM0 ok hb ⟨fun c2 => m_kindOf hM0 ok hb ⟨fun c3 => m_on hM0 ok hs hp (m_cellsOf hM0 ok ha ?_), fun c3 => m_on hM0 ok hs hp (m_cellsOf hM0 ok ha ?_)⟩, fun c2 => m_on hM0 ok hs hp (m_cellsOf hM0 ok ha ?_)⟩))))))))))
          · have q2 : ¬ pK A (pS A (1 - s) (pP A - 1 - p)) = 2 := fun z => c2 (by rw [z]; rfl)
            have q3 : ¬ pK A (pS A (1 - s) (pP A - 1 - p)) = 3 := fun z => c3 (by rw [z]; rfl)
            refine both _ (by rw [hD0]; unfold fromN; rw [if_neg q2, if_neg q3]) _ _ (fun e => m_throughOf hM0 ok hb (tail 0 _ (by rw [hsh, e]))) (fun e => tail 0 _ (by rw [or_0, e]))
          · have q3 : pK A (pS A (1 - s) (pP A - 1 - p)) = 3 := (nI_lit (b := 3) (by omega) (by omega) rfl).mp c3
            refine both _ (by rw [hD0]; unfold fromN; rw [if_neg (by omega), if_pos q3]; exact pk_mul 2 _) _ _ (fun e => m_throughOf hM0 ok hb (tail 0 _ (by rw [hsh, e]))) (fun e => tail 0 _ (by rw [or_0, e]))
          · have q2 : pK A (pS A (1 - s) (pP A - 1 - p)) = 2 := (nI_lit (b := 2) (by omega) (by omega) rfl).mp c2
            refine both _ (by unfold fromN; rw [if_pos q2]; rfl) _ _ (fun e => m_throughOf hM0 ok hb (tail 0 _ (by rw [hsh, e]))) (fun e => tail 0 _ (by rw [or_0, e]))
theorem p_trace : ∀ (a0 : Int32) (f : zF), Inv f → pr2 Inv mX6_trace mX7_trace [.int a0] f := by
  intro a0 f hI K hK
  obtain ⟨n, hn, h1, h2, h3⟩ := hI.2.2.2.2.1
  have fin : ∀ r f', nz f f' → K r r f' := fun r f' h => hK r f' (Inv_nz hI h)
  have e24 : (zup f 52 0 0) 52 24 = nI n := by rw [zup_eq]; exact h2
  rcases inOut a0 (n := n) (by omega) with h0 | ⟨j, hj, rfl⟩
  · have e : ci mX7_trace [.ref 52, .int a0] f (fun r2 f2 => K (-1000000) r2 f2) := by
      refine w_X7_trace ?_
      rw [show f 52 24 = nI n from h2]
      exact m_in0_f h0 (by omega) (l_pred (by omega)) (y0 (fin _ _ (z0 f)))
    refine w_X6_trace (w_X1_traced ⟨fun _ => e, fun c => ⟨fun _ => e, fun c2 => ?_⟩⟩)
    rw [h1] at c2
    exact (h0.elim c c2).elim
  · refine w_X6_trace (w_X1_traced ⟨fun c => absurd c (nI_pos (by omega)), fun _ => ⟨fun c => absurd c (by rw [h1]; exact nI_ge hj (by omega)), fun _ => ?_⟩⟩)
    refine q_item (n := 16) (by decide) rfl (by decide) (by omega) ?_
    refine w_X7_trace ?_
    rw [show f 52 24 = nI n from h2]
    refine m_in0_t hj (by omega) (l_pred (by omega)) (y1 ⟨vp_in_nI (by omega) (by omega), ?_⟩)
    rw [nI_clamp (by omega), zup_ne (by omega), h3 j hj]
    exact fin _ _ (z0 f)
theorem p_status : ∀ (f : zF), Inv f → pr2 Inv mX6_status mX7_status [] f := by
  intro f hI K hK
  refine w_X6_status (w_X7_status ?_)
  rw [hI.2.2.2.2.2.1]
  exact hK _ _ (Inv_nz hI (z0 f))
theorem p_fault : ∀ (f : zF), Inv f → pr2 Inv mX6_fault mX7_fault [] f := by
  intro f hI K hK
  refine w_X6_fault (w_X7_fault ?_)
  rw [hI.2.2.2.2.2.2]
  exact hK _ _ (Inv_nz hI (z0 f))
