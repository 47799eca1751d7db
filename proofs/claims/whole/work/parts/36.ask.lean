/-! ===== pairs: asked, and the trace ===== -/
abbrev aTr : Type := Nat × (Nat → Int32)
def bgT (T : aTr) (c : Int32) : aTr := if 16 ≤ T.1 then T else (T.1 + 1, fun j => if j = T.1 then c else T.2 j)
def trC (f : zF) (T : aTr) : Prop := T.1 ≤ 16 ∧ f 22 1 = nI T.1 ∧ ∀ j, j < T.1 → f 23 j = T.2 j
def trM (f : zF) (T : aTr) : Prop := T.1 ≤ 16 ∧ f 52 24 = nI T.1 ∧ ∀ j, j < T.1 → f 62 j = T.2 j
def fC (f f' : zF) : Prop := ∀ c, c ≠ 22 → c ≠ 23 → f' c = f c
def fM (f f' : zF) : Prop := (∀ c, c ≠ 52 → c ≠ 62 → f' c = f c) ∧ ∀ j, j ≠ 24 → f' 52 j = f 52 j
theorem fC_t {f g h : zF} (a : fC f g) (b : fC g h) : fC f h := fun c h1 h2 => (b c h1 h2).trans (a c h1 h2)
theorem fM_t {f g h : zF} (a : fM f g) (b : fM g h) : fM f h := ⟨fun c h1 h2 => (b.1 c h1 h2).trans (a.1 c h1 h2), fun j hj => (b.2 j hj).trans (a.2 j hj)⟩
theorem CP_fC {f f' : zF} {A : aPg} (h : fC f f') (hP : CP f 12 A) : CP f' 12 A := by
  unfold CP
  rw [h 12 (by omega) (by omega), h (12 + 1) (by omega) (by omega), h (12 + 2) (by omega) (by omega), h (12 + 3) (by omega) (by omega), h (12 + 4) (by omega) (by omega), h (12 + 5) (by omega) (by omega)]
  exact hP
theorem MP_fM {f f' : zF} {A : aPg} (h : fM f f') (hM : MP (f 56) 0 A) : MP (f' 56) 0 A := by
  rw [h.1 56 (by omega) (by omega)]
  exact hM
theorem q_begin {f : zF} {K : zF → Prop} {T : aTr} {c : Int32} (hT : trC f T) (h : ∀ f', fC f f' → trC f' (bgT T c) → K f') : cv mX1_begin [.ref 22, .int c] f K := by
  obtain ⟨h1, h2, h3⟩ := hT
  refine w_X1_begin ?_
  rw [h2]
  refine ⟨fun q => h f (fun _ _ _ => rfl) ?_, fun q => ?_⟩
  · have q : 16 ≤ T.1 := (nI_leI (a := 16) (by omega) (by omega)).mp q
    unfold bgT
    rw [if_pos q]
    exact ⟨h1, h2, h3⟩
  · have q : ¬ 16 ≤ T.1 := fun z => q (nI_le (a := 16) z (by omega))
    refine q_put (n := 16) (by decide) rfl (by decide) (by omega) (h _ (fun c h1 h2 => by rw [zup_ne h1, zup_ne h2]) ?_)
    unfold bgT
    rw [if_neg q]
    refine ⟨by show T.1 + 1 ≤ 16; omega, ?_, fun j hj => ?_⟩
    · rw [up_at, zup_ne (by omega), h2]
      exact nI_1 _
    · rw [zup_ne (by omega), zup_eq]
      show (if j = T.1 then c else f 23 j) = (if j = T.1 then c else T.2 j)
      by_cases e : j = T.1
      · rw [if_pos e, if_pos e]
      · rw [if_neg e, if_neg e]
        have hj : j < T.1 + 1 := hj
        exact h3 j (by omega)
theorem m_began {f : zF} {K : zF → Prop} {T : aTr} {c : Int32} (hT : trM f T) (h : ∀ f', fM f f' → trM f' (bgT T c) → K f') : cv mX7_began [.ref 52, .int c] f K := by
  obtain ⟨h1, h2, h3⟩ := hT
  refine w_X7_began ?_
  rw [h2]
  refine ⟨fun q => h f ⟨fun _ _ _ => rfl, fun _ _ => rfl⟩ ?_, fun q => ?_⟩
  · have q : 16 ≤ T.1 := (nI_leI (a := 16) (by omega) (by omega)).mp q
    unfold bgT
    rw [if_pos q]
    exact ⟨h1, h2, h3⟩
  · have q : ¬ 16 ≤ T.1 := fun z => q (nI_le (a := 16) z (by omega))
    rw [nI_clamp (by omega)]
    refine ⟨vp_in_nI (by omega) (by omega), h _ ⟨fun c h1 h2 => by rw [zup_ne h1, zup_ne h2], fun j hj => by rw [up_sl hj, zup_ne (by omega)]⟩ ?_⟩
    unfold bgT
    rw [if_neg q]
    refine ⟨by show T.1 + 1 ≤ 16; omega, ?_, fun j hj => ?_⟩
    · rw [up_at]
      exact nI_1 _
    · rw [zup_ne (by omega), zup_eq]
      show (if j = T.1 then c else f 62 j) = (if j = T.1 then c else T.2 j)
      by_cases e : j = T.1
      · rw [if_pos e, if_pos e]
      · rw [if_neg e, if_neg e]
        have hj : j < T.1 + 1 := hj
        exact h3 j (by omega)
def mkT (T : aTr) (k : Nat) : aTr := bgT (bgT (if k = 3 then bgT T 22 else if k = 2 then bgT T 24 else T) 21) 20
def mkI (k l e : Nat) : Int32 := if k = 3 then nI l + nI e - 1000 else if k = 2 then 2 * (nI l + nI e) else nI l + nI e
def smT (T : aTr) (k : Nat) : aTr := bgT (bgT (if k = 5 then bgT T 14 else T) 13) 10
def smI (k e : Nat) : Int32 := if k = 5 then 2 * (nI (popN e) - 100) else nI (popN e) - 100
def spT (T : aTr) (k : Nat) : aTr := mkT (bgT (bgT (if k = 2 then bgT T 12 else T) 11) 10) k
def spI (k l e : Nat) : Int32 := if k = 2 then 0 - (nI (popN e) + mkI k l e) else nI (popN e) + mkI k l e
def mmT (T : aTr) (k : Nat) : aTr := smT (bgT (bgT T 23) 20) k
def mmI (k l e : Nat) : Int32 := nI l - smI k e
section
variable {f : zF} {K : Int32 → zF → Prop} {A : aPg} {T : aTr} {l : Nat}
theorem q_sizeOfAny (hP : CP f 12 A) (ok : okPg A) (hl : l < pL A) (hT : trC f T) (h : ∀ f', fC f f' → trC f' (bgT T 10) → K (nI (popN (pE A l))) f') : ci mX1_sizeOfAny [.ref 22, .ref 12, .int (nI l)] f K :=
  w_X1_sizeOfAny (q_begin hT (fun f1 h1 t1 => q_cellsOf (CP_fC h1 hP) ok hl (j_bitCount (pE_lt ok hl) (h f1 h1 t1))))
theorem m_plainSize (hM : MP (f 56) 0 A) (ok : okPg A) (hl : l < pL A) (hT : trM f T) (h : ∀ f', fM f f' → trM f' (bgT T 10) → K (nI (popN (pE A l))) f') : ci mX7_plainSize [.ref 52, .int (nI l)] f K :=
  w_X7_plainSize (m_began hT (fun f1 h1 t1 => m_cellsOf (MP_fM h1 hM) ok hl (m_bits (pE_lt ok hl) (h f1 h1 t1))))
theorem q_markOfAny {x : Int32} (hT : trC f T) (h : ∀ f', fC f f' → trC f' (bgT T 20) → K x f') : ci mX1_markOfAny [.ref 22, .int x] f K :=
  w_X1_markOfAny (q_begin hT h)
theorem kd_I {k j : Nat} (hk : k ≤ 5) (hj : j ≤ 5) : nI k = nI j ↔ k = j := nI_eq (by omega) (by omega)
theorem q_markOfPlain (hP : CP f 12 A) (ok : okPg A) (hl : l < pL A) (hT : trC f T) (h : ∀ f', fC f f' → trC f' (mkT T (pK A l)) → K (mkI (pK A l) l (pE A l)) f') : ci mX1_markOfPlain [.ref 22, .ref 12, .int (nI l)] f K := by
  have hk := (ok.2.2.2.1 l hl).2.1
  have k3 : nI (pK A l) = 3 ↔ pK A l = 3 := kd_I (j := 3) hk (by omega)
  have k2 : nI (pK A l) = 2 ↔ pK A l = 2 := kd_I (j := 2) hk (by omega)
  unfold mkT mkI at h
  refine w_X1_markOfPlain (q_kindOf hP ok hl ⟨fun c3 => ⟨fun c2 => ?_, fun c2 => ?_⟩, fun c3 => ?_⟩)
  · rw [if_neg (fun z => c3 (k3.mpr z)), if_neg (fun z => c2 (k2.mpr z)), if_neg (fun z => c3 (k3.mpr z)), if_neg (fun z => c2 (k2.mpr z))] at h
    exact q_begin hT (fun f1 h1 t1 => q_markOfAny t1 (fun f2 h2 t2 => q_cellsOf (CP_fC (fC_t h1 h2) hP) ok hl ⟨fun _ => ⟨fun _ => h f2 (fC_t h1 h2) t2, fun z => absurd z c2⟩, fun z => absurd z c3⟩))
  · rw [if_neg (fun z => c3 (k3.mpr z)), if_pos (k2.mp c2), if_neg (fun z => c3 (k3.mpr z)), if_pos (k2.mp c2)] at h
    exact q_begin hT (fun f0 h0 t0 => q_begin t0 (fun f1 h1 t1 => q_markOfAny t1 (fun f2 h2 t2 => q_cellsOf (CP_fC (fC_t h0 (fC_t h1 h2)) hP) ok hl ⟨fun _ => ⟨fun z => absurd c2 z, fun _ => h f2 (fC_t h0 (fC_t h1 h2)) t2⟩, fun z => absurd z c3⟩)))
  · rw [if_pos (k3.mp c3), if_pos (k3.mp c3)] at h
    exact q_begin hT (fun f0 h0 t0 => q_begin t0 (fun f1 h1 t1 => q_markOfAny t1 (fun f2 h2 t2 => q_cellsOf (CP_fC (fC_t h0 (fC_t h1 h2)) hP) ok hl ⟨fun z => absurd c3 z, fun _ => h f2 (fC_t h0 (fC_t h1 h2)) t2⟩)))
theorem q_sizeOfMark (hP : CP f 12 A) (ok : okPg A) (hl : l < pL A) (hT : trC f T) (h : ∀ f', fC f f' → trC f' (smT T (pK A l)) → K (smI (pK A l) (pE A l)) f') : ci mX1_sizeOfMark [.ref 22, .ref 12, .int (nI l)] f K := by
  have hk := (ok.2.2.2.1 l hl).2.1
  have k5 : nI (pK A l) = 5 ↔ pK A l = 5 := kd_I (j := 5) hk (by omega)
  unfold smT smI at h
  refine w_X1_sizeOfMark (q_kindOf hP ok hl (fun z2 e2 => ?_))
  by_cases c5 : pK A l = 5
  · rw [if_pos (k5.mpr c5)] at e2
    subst e2
    rw [if_pos c5, if_pos c5] at h
    exact y1 (q_begin hT (fun f0 h0 t0 => q_begin t0 (fun f1 h1 t1 => q_sizeOfAny (CP_fC (fC_t h0 h1) hP) ok hl t1 (fun f2 h2 t2 => y1 (h f2 (fC_t h0 (fC_t h1 h2)) t2)))))
  · rw [if_neg (fun z => c5 (k5.mp z))] at e2
    subst e2
    rw [if_neg c5, if_neg c5] at h
    exact y0 (q_begin hT (fun f1 h1 t1 => q_sizeOfAny (CP_fC h1 hP) ok hl t1 (fun f2 h2 t2 => y0 (h f2 (fC_t h1 h2) t2))))
theorem q_markOfMark (hP : CP f 12 A) (ok : okPg A) (hl : l < pL A) (hT : trC f T) (h : ∀ f', fC f f' → trC f' (mmT T (pK A l)) → K (mmI (pK A l) l (pE A l)) f') : ci mX1_markOfMark [.ref 22, .ref 12, .int (nI l)] f K :=
  w_X1_markOfMark (q_begin hT (fun f0 h0 t0 => q_markOfAny t0 (fun f1 h1 t1 => q_sizeOfMark (CP_fC (fC_t h0 h1) hP) ok hl t1 (fun f2 h2 t2 => h f2 (fC_t h0 (fC_t h1 h2)) t2))))
theorem q_sizeOfPlain (hP : CP f 12 A) (ok : okPg A) (hl : l < pL A) (hT : trC f T) (h : ∀ f', fC f f' → trC f' (spT T (pK A l)) → K (spI (pK A l) l (pE A l)) f') : ci mX1_sizeOfPlain [.ref 22, .ref 12, .int (nI l)] f K := by
  have hk := (ok.2.2.2.1 l hl).2.1
  have k2 : nI (pK A l) = 2 ↔ pK A l = 2 := kd_I (j := 2) hk (by omega)
  unfold spT spI at h
  refine w_X1_sizeOfPlain (q_kindOf hP ok hl (fun z2 e2 => ?_))
  by_cases c2 : pK A l = 2
  · rw [if_pos (k2.mpr c2)] at e2
    subst e2
    rw [if_pos c2, if_pos c2] at h
    exact y1 (q_begin hT (fun f0 h0 t0 => q_begin t0 (fun f1 h1 t1 => q_sizeOfAny (CP_fC (fC_t h0 h1) hP) ok hl t1 (fun f2 h2 t2 => q_markOfPlain (CP_fC (fC_t h0 (fC_t h1 h2)) hP) ok hl t2 (fun f3 h3 t3 => y1 (h f3 (fC_t h0 (fC_t h1 (fC_t h2 h3))) t3))))))
  · rw [if_neg (fun z => c2 (k2.mp z))] at e2
    subst e2
    rw [if_neg c2, if_neg c2] at h
    exact y0 (q_begin hT (fun f1 h1 t1 => q_sizeOfAny (CP_fC h1 hP) ok hl t1 (fun f2 h2 t2 => q_markOfPlain (CP_fC (fC_t h1 h2) hP) ok hl t2 (fun f3 h3 t3 => y0 (h f3 (fC_t h1 (fC_t h2 h3)) t3)))))
theorem m_markSize (hM : MP (f 56) 0 A) (ok : okPg A) (hl : l < pL A) (hT : trM f T) (h : ∀ f', fM f f' → trM f' (smT T (pK A l)) → K (smI (pK A l) (pE A l)) f') : ci mX7_markSize [.ref 52, .int (nI l)] f K := by
  have hk := (ok.2.2.2.1 l hl).2.1
  have k5 : nI (pK A l) = 5 ↔ pK A l = 5 := kd_I (j := 5) hk (by omega)
  unfold smT smI at h
  refine w_X7_markSize (m_kindOf hM ok hl ⟨fun c5 => ?_, fun c5 => ?_⟩)
  · rw [if_neg (fun z => c5 (k5.mpr z)), if_neg (fun z => c5 (k5.mpr z))] at h
    exact m_began hT (fun f1 h1 t1 => m_plainSize (MP_fM h1 hM) ok hl t1 (fun f2 h2 t2 => m_kindOf (MP_fM (fM_t h1 h2) hM) ok hl ⟨fun _ => h f2 (fM_t h1 h2) t2, fun z => absurd z c5⟩))
  · rw [if_pos (k5.mp c5), if_pos (k5.mp c5)] at h
    exact m_began hT (fun f0 h0 t0 => m_began t0 (fun f1 h1 t1 => m_plainSize (MP_fM (fM_t h0 h1) hM) ok hl t1 (fun f2 h2 t2 => m_kindOf (MP_fM (fM_t h0 (fM_t h1 h2)) hM) ok hl ⟨fun z => absurd c5 z, fun _ => h f2 (fM_t h0 (fM_t h1 h2)) t2⟩)))
theorem m_markPl (hM : MP (f 56) 0 A) (ok : okPg A) (hl : l < pL A) (hp : pK A l < 4) (hT : trM f T) (h : ∀ f', fM f f' → trM f' (mkT T (pK A l)) → K (mkI (pK A l) l (pE A l)) f') : ci mX7_markOf [.ref 52, .int (nI l)] f K := by
  have hk := (ok.2.2.2.1 l hl).2.1
  have hk1 := (ok.2.2.2.1 l hl).1
  have k1 : nI (pK A l) = 1 ↔ pK A l = 1 := kd_I (j := 1) hk (by omega)
  have k3 : nI (pK A l) = 3 ↔ pK A l = 3 := kd_I (j := 3) hk (by omega)
  unfold mkT mkI at h
  refine w_X7_markOf (m_kindOf hM ok hl ⟨fun _ => ⟨fun c1 => ?_, fun c1 z5 e5 => ?_⟩, fun q => absurd (nI_lt (b := 4) hp (by omega)) q⟩)
  · have n1 := k1.mp c1
    rw [if_neg (by omega), if_neg (by omega), if_neg (by omega), if_neg (by omega)] at h
    exact m_began hT (fun f1 h1 t1 => m_began t1 (fun f2 h2 t2 => m_cellsOf (MP_fM (fM_t h1 h2) hM) ok hl ⟨fun z => absurd c1 z, fun _ => h f2 (fM_t h1 h2) t2⟩))
  · have n1 : ¬ pK A l = 1 := fun z => c1 (k1.mpr z)
    by_cases c3 : pK A l = 3
    · rw [if_pos (k3.mpr c3)] at e5
      subst e5
      rw [if_pos c3, if_pos c3] at h
      exact m_began hT (fun f0 h0 t0 => m_began t0 (fun f1 h1 t1 => m_began t1 (fun f2 h2 t2 => m_cellsOf (MP_fM (fM_t h0 (fM_t h1 h2)) hM) ok hl ⟨fun _ => ⟨fun z => absurd (k3.mpr c3) z, fun _ => h f2 (fM_t h0 (fM_t h1 h2)) t2⟩, fun z => absurd z c1⟩)))
    · rw [if_neg (fun z => c3 (k3.mp z))] at e5
      subst e5
      rw [if_neg c3, if_pos (by omega), if_neg c3, if_pos (by omega)] at h
      exact m_began hT (fun f0 h0 t0 => m_began t0 (fun f1 h1 t1 => m_began t1 (fun f2 h2 t2 => m_cellsOf (MP_fM (fM_t h0 (fM_t h1 h2)) hM) ok hl ⟨fun _ => ⟨fun _ => h f2 (fM_t h0 (fM_t h1 h2)) t2, fun z => absurd (k3.mp z) c3⟩, fun z => absurd z c1⟩)))
theorem m_markMk (hM : MP (f 56) 0 A) (ok : okPg A) (hl : l < pL A) (hp : 4 ≤ pK A l) (hT : trM f T) (h : ∀ f', fM f f' → trM f' (mmT T (pK A l)) → K (mmI (pK A l) l (pE A l)) f') : ci mX7_markOf [.ref 52, .int (nI l)] f K := by
  have hk := (ok.2.2.2.1 l hl).2.1
  exact w_X7_markOf (m_kindOf hM ok hl ⟨fun q => absurd q (nI_nlt (b := 4) hp (by omega)), fun _ => m_began hT (fun f0 h0 t0 => m_began t0 (fun f1 h1 t1 => m_markSize (MP_fM (fM_t h0 h1) hM) ok hl t1 (fun f2 h2 t2 => h f2 (fM_t h0 (fM_t h1 h2)) t2)))⟩)
theorem m_sizePl (hM : MP (f 56) 0 A) (ok : okPg A) (hl : l < pL A) (hp : pK A l < 4) (hT : trM f T) (h : ∀ f', fM f f' → trM f' (spT T (pK A l)) → K (spI (pK A l) l (pE A l)) f') : ci mX7_sizeOf [.ref 52, .int (nI l)] f K := by
  have hk := (ok.2.2.2.1 l hl).2.1
  have k2 : nI (pK A l) = 2 ↔ pK A l = 2 := kd_I (j := 2) hk (by omega)
  unfold spT spI at h
  refine w_X7_sizeOf (m_kindOf hM ok hl ⟨fun _ => ⟨fun c2 => ?_, fun c2 => ?_⟩, fun q => absurd (nI_lt (b := 4) hp (by omega)) q⟩)
  · rw [if_neg (fun z => c2 (k2.mpr z)), if_neg (fun z => c2 (k2.mpr z))] at h
    exact m_began hT (fun f1 h1 t1 => m_plainSize (MP_fM h1 hM) ok hl t1 (fun f2 h2 t2 => m_markPl (MP_fM (fM_t h1 h2) hM) ok hl hp t2 (fun f3 h3 t3 => ⟨fun _ => h f3 (fM_t h1 (fM_t h2 h3)) t3, fun z => absurd z c2⟩)))
  · rw [if_pos (k2.mp c2), if_pos (k2.mp c2), Int32.zero_sub] at h
    exact m_began hT (fun f0 h0 t0 => m_began t0 (fun f1 h1 t1 => m_plainSize (MP_fM (fM_t h0 h1) hM) ok hl t1 (fun f2 h2 t2 => m_markPl (MP_fM (fM_t h0 (fM_t h1 h2)) hM) ok hl hp t2 (fun f3 h3 t3 => ⟨fun z => absurd c2 z, fun _ => h f3 (fM_t h0 (fM_t h1 (fM_t h2 h3))) t3⟩))))
theorem m_sizeMk (hM : MP (f 56) 0 A) (ok : okPg A) (hl : l < pL A) (hp : 4 ≤ pK A l) (hT : trM f T) (h : ∀ f', fM f f' → trM f' (smT T (pK A l)) → K (smI (pK A l) (pE A l)) f') : ci mX7_sizeOf [.ref 52, .int (nI l)] f K := by
  have hk := (ok.2.2.2.1 l hl).2.1
  exact w_X7_sizeOf (m_kindOf hM ok hl ⟨fun q => absurd q (nI_nlt (b := 4) hp (by omega)), fun _ => m_markSize hM ok hl hT h⟩)
end
/-- the trace is new, nothing else -/
theorem Inv_tr {f f' : zF} (hI : Inv f) {T : aTr} (h1 : trC f' T) (h2 : trM f' T) (h3 : ∀ c, c ≠ 22 → c ≠ 23 → c ≠ 52 → c ≠ 62 → f' c = f c) (h4 : ∀ j, j ≠ 0 → j ≠ 24 → f' 52 j = f 52 j) : Inv f' := by
  obtain ⟨a, b, c, d, e, g0, g⟩ := hI
  refine ⟨?_, ?_, ?_, ?_, ⟨T.1, h1.1, h1.2.1, h2.2.1, fun j hj => (h1.2.2 j hj).trans (h2.2.2 j hj).symm⟩, ?_, ?_⟩
  · intro i hi
    have a := a i hi
    unfold iRw at a ⊢
    rw [h3 53 (by omega) (by omega) (by omega) (by omega), h3 54 (by omega) (by omega) (by omega) (by omega), h3 55 (by omega) (by omega) (by omega) (by omega), h3 (24 + 2 * i) (by omega) (by omega) (by omega) (by omega), h3 (24 + 2 * i + 1) (by omega) (by omega) (by omega) (by omega)]
    exact a
  · unfold iTape at b ⊢
    rw [h3 4 (by omega) (by omega) (by omega) (by omega), h3 5 (by omega) (by omega) (by omega) (by omega), h3 59 (by omega) (by omega) (by omega) (by omega), h4 10 (by omega) (by omega)]
    exact b
  · obtain ⟨H, na, lt, x1, x2, x3, x4, x5, x6, x7, x8, x9⟩ := c
    refine ⟨H, na, lt, x1, x2, x3, ?_, ?_⟩
    · unfold CP
      rw [h3 12 (by omega) (by omega) (by omega) (by omega), h3 (12 + 1) (by omega) (by omega) (by omega) (by omega), h3 (12 + 2) (by omega) (by omega) (by omega) (by omega), h3 (12 + 3) (by omega) (by omega) (by omega) (by omega), h3 (12 + 4) (by omega) (by omega) (by omega) (by omega), h3 (12 + 5) (by omega) (by omega) (by omega) (by omega)]
      exact x4
    · rw [h3 56 (by omega) (by omega) (by omega) (by omega), h3 18 (by omega) (by omega) (by omega) (by omega), h3 58 (by omega) (by omega) (by omega) (by omega), h4 8 (by omega) (by omega)]
      refine ⟨x5, x6, x7, x8, fun t ht => ⟨(x9 t ht).1, iAct_eq ?_ ?_ ?_ (x9 t ht).2⟩⟩ <;> rw [h3 _ (by omega) (by omega) (by omega) (by omega)]
  · intro k hk
    obtain ⟨A, ok, hP, hm⟩ := d k hk
    refine ⟨A, ok, ?_, ?_⟩
    · unfold CP
      rw [h3 (40 + 6 * k) (by omega) (by omega) (by omega) (by omega), h3 (40 + 6 * k + 1) (by omega) (by omega) (by omega) (by omega), h3 (40 + 6 * k + 2) (by omega) (by omega) (by omega) (by omega), h3 (40 + 6 * k + 3) (by omega) (by omega) (by omega) (by omega), h3 (40 + 6 * k + 4) (by omega) (by omega) (by omega) (by omega), h3 (40 + 6 * k + 5) (by omega) (by omega) (by omega) (by omega)]
      exact hP
    · rw [h3 60 (by omega) (by omega) (by omega) (by omega), h3 61 (by omega) (by omega) (by omega) (by omega)]
      exact hm
  · rw [h3 0 (by omega) (by omega) (by omega) (by omega), h4 1 (by omega) (by omega)]
    exact g0
  · rw [h3 3 (by omega) (by omega) (by omega) (by omega), h4 11 (by omega) (by omega)]
    exact g
theorem p_ask : ∀ (a0 a1 : Int32) (f : zF), Inv f → pr2 Inv mX6_ask mX7_ask [.int a0, .int a1] f := by
  intro a0 a1 f hI K hK
  obtain ⟨A, ok, hP, hM⟩ := Inv_pg hI
  have fin : ∀ r f', nz f f' → K r r f' := fun r f' h => hK r f' (Inv_nz hI h)
  have hM0 := MP_nz (z0 f) hM
  have h8 := ok.2.1
  rcases inOut a0 (n := pL A) (by omega) with h0 | ⟨l, hl, rfl⟩
  · exact w_X6_ask (q_hasLetter_f hP h0 (y0 (w_X7_ask (m_isOne_f hM0 ok h0 (y0 (fin _ _ (z0 f)))))))
  · refine w_X6_ask (q_hasLetter_t hP ok hl (y1 ?_))
    rcases inOut a1 (n := 2) (by omega) with h1 | ⟨w, hw, rfl⟩
    · have e : ci mX7_ask [.ref 52, .int (nI l), .int a1] f (fun r2 f2 => K (-1000001) r2 f2) := w_X7_ask (m_isOne_t hM0 ok hl (y1 (m_in0_f h1 (by omega) rfl (y0' (fin _ _ (z0 f))))))
      refine ⟨fun _ => e, fun c => ⟨fun c2 => ?_, fun _ => e⟩⟩
      exact (Int32.lt_irrefl (Int32.lt_of_lt_of_le (outI_512 (n := 1) (by omega) h1 c) c2)).elim
    · refine ⟨fun c => absurd c (nI_pos (by omega)), fun _ => ⟨fun _ => ?_, fun c => absurd (nI_le (a := w) (b := 1) (by omega) (by omega)) c⟩⟩
      have hk := ok.2.2.2.1 l hl
      -- both begin anew
      have T0 : trC (zup f 22 1 0) (0, fun _ => 0) := ⟨by show 0 ≤ 16; omega, up_at, fun j hj => absurd hj (by show ¬ j < 0; omega)⟩
      have P0 : CP (zup f 22 1 0) 12 A := by
        unfold CP
        rw [zup_ne (by omega), zup_ne (by omega), zup_ne (by omega), zup_ne (by omega), zup_ne (by omega), zup_ne (by omega)]
        exact hP
      have tail : ∀ (f1 : zF), fC (zup f 22 1 0) f1 → ∀ T : aTr, trC f1 T → ∀ r : Int32, (∀ K2 : Int32 → zF → Prop, (∀ f2, fM (zup (zup f1 52 0 0) 52 24 0) f2 → trM f2 T → K2 r f2) → trM (zup (zup f1 52 0 0) 52 24 0) (0, fun _ => 0) → MP ((zup (zup f1 52 0 0) 52 24 0) 56) 0 A → (if w = 0 then ci mX7_sizeOf [.ref 52, .int (nI l)] (zup (zup f1 52 0 0) 52 24 0) K2 else ci mX7_markOf [.ref 52, .int (nI l)] (zup (zup f1 52 0 0) 52 24 0) K2)) → ci mX7_ask [.ref 52, .int (nI l), .int (nI w)] f1 (fun r2 f2 => K r r2 f2) := by
        intro f1 h1 T t1 r hm
        have e56 : (zup f1 52 0 0) 56 = f 56 := by rw [zup_ne (by omega), h1 56 (by omega) (by omega), zup_ne (by omega)]
        have M1 : MP ((zup f1 52 0 0) 56) 0 A := by rw [e56]; exact hM
        have M2 : MP ((zup (zup f1 52 0 0) 52 24 0) 56) 0 A := by rw [zup_ne (by omega)]; exact M1
        have q := hm (fun r2 f2 => K r r2 f2) (fun f2 h2 t2 => hK _ _ ?_) ⟨by show 0 ≤ 16; omega, up_at, fun j hj => absurd hj (by show ¬ j < 0; omega)⟩ M2
        · refine w_X7_ask (m_isOne_t M1 ok hl (y1 (m_in0_t hw (by omega) rfl (y1' ?_))))
          rcases (show w = 0 ∨ w = 1 by omega) with rfl | rfl
          · rw [if_pos rfl] at q
            exact ⟨fun z => absurd rfl z, fun _ => q⟩
          · rw [if_neg (by omega)] at q
            exact ⟨fun _ => q, fun z => absurd z (by decide)⟩
        · have tc : trC f2 T := by
            obtain ⟨x1, x2, x3⟩ := t1
            refine ⟨x1, ?_, fun j hj => ?_⟩
            · rw [h2.1 22 (by omega) (by omega), zup_ne (by omega), zup_ne (by omega)]
              exact x2
            · rw [h2.1 23 (by omega) (by omega), zup_ne (by omega), zup_ne (by omega)]
              exact x3 j hj
          refine Inv_tr hI tc t2 (fun c c1 c2 c3 c4 => ?_) (fun j j1 j2 => ?_)
          · rw [h2.1 c c3 c4, zup_ne c3, zup_ne c3, h1 c c1 c2, zup_ne c1]
          · rw [h2.2 j j2, up_sl j2, up_sl j1, h1 52 (by omega) (by omega), zup_ne (by omega)]
      by_cases mk : pK A l < 4
      · have ik : isK (pK A l) 4 = 0 := by
          unfold isK
          rw [if_neg (by omega)]
        refine w_X1_answer (q_kindOf P0 ok hl (q_isOfKind (pK A l) 4 hk.1 hk.2.1 (by omega) ?_))
        rw [ik]
        rcases (show w = 0 ∨ w = 1 by omega) with rfl | rfl
        · refine ⟨fun z => absurd rfl z, fun _ => y0 (q_sizeOfPlain P0 ok hl T0 (fun f1 h1 t1 => tail f1 h1 _ t1 _ (fun K2 k2 tm M2 => ?_)))⟩
          rw [if_pos rfl]
          exact m_sizePl M2 ok hl mk tm k2
        · refine ⟨fun _ => y0 (q_markOfPlain P0 ok hl T0 (fun f1 h1 t1 => tail f1 h1 _ t1 _ (fun K2 k2 tm M2 => ?_))), fun z => absurd z (by decide)⟩
          rw [if_neg (by omega)]
          exact m_markPl M2 ok hl mk tm k2
      · have ik : isK (pK A l) 4 = 1 := by
          unfold isK
          rw [if_pos (by omega)]
        refine w_X1_answer (q_kindOf P0 ok hl (q_isOfKind (pK A l) 4 hk.1 hk.2.1 (by omega) ?_))
        rw [ik]
        rcases (show w = 0 ∨ w = 1 by omega) with rfl | rfl
        · refine ⟨fun z => absurd rfl z, fun _ => y1 (q_sizeOfMark P0 ok hl T0 (fun f1 h1 t1 => tail f1 h1 _ t1 _ (fun K2 k2 tm M2 => ?_)))⟩
          rw [if_pos rfl]
          exact m_sizeMk M2 ok hl (by omega) tm k2
        · refine ⟨fun _ => y1 (q_markOfMark P0 ok hl T0 (fun f1 h1 t1 => tail f1 h1 _ t1 _ (fun K2 k2 tm M2 => ?_))), fun z => absurd z (by decide)⟩
          rw [if_neg (by omega)]
          exact m_markMk M2 ok hl (by omega) tm k2
