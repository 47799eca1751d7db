/-! ===== what holds between the calls ===== -/
def tuN (A : aPg) : aPg := (pD A, pL A, pP A, pK A, pE A, pB A, pF A)
def upN (g : Nat → Nat) (p v : Nat) : Nat → Nat := fun q => if q = p then v else g q
def wrN (A : aPg) (s p l : Nat) : aPg := (pD A, pL A, pP A, pK A, pE A, (if s = 0 then upN (pF A) p l else pF A), (if s = 0 then pB A else upN (pB A) p l))
def iRw (f : zF) (i : Nat) : Prop := f (24 + 2 * i) 1 = f 53 i ∧ (f 53 i = -1 ∨ f 53 i = 0 ∨ f 53 i = 1 ∨ f 53 i = 2) ∧ (f 53 i ≠ -1 → f (24 + 2 * i) 2 = f 54 i ∧ ∃ n, n ≤ 40 ∧ f 54 i = nI n) ∧ ∀ j, j < 40 → f (24 + 2 * i + 1) j = f 55 (40 * i + j)
def iRows (f : zF) : Prop := ∀ i, i < 8 → iRw f i
def iTape (f : zF) : Prop := ∃ n, n ≤ 400 ∧ f 4 1 = nI n ∧ f 52 10 = nI n ∧ ∀ j, j < n → f 5 j = f 59 j ∧ ∃ b, b < 256 ∧ f 5 j = nI b
def iImg1 (f : zF) (k : Nat) : Prop := ∃ A, okPg A ∧ CP f (40 + 6 * k) A ∧ ((f 60 k = 0 ∧ pL A = 0) ∨ (f 60 k ≠ 0 ∧ 0 < pL A ∧ MP (f 61) (37 * k) A))
def iImg (f : zF) : Prop := ∀ k, k < 2 → iImg1 f k
def iTr (f : zF) : Prop := ∃ n, n ≤ 16 ∧ f 22 1 = nI n ∧ f 52 24 = nI n ∧ ∀ j, j < n → f 23 j = f 62 j
def slN (lt na t : Nat) : Nat := (lt + 25 + t - na) % 24
def iAct (f : zF) (s : Nat) (A B : aPg) : Prop := (f 19 s = -1 ∧ A = tuN B) ∨ ∃ sd p l, sd < 2 ∧ p < pP B ∧ l < pL B ∧ f 19 s = nI sd ∧ f 20 s = nI p ∧ f 21 s = nI l ∧ A = wrN B sd p l
def iPgH (f : zF) (H : Nat → aPg) (na lt : Nat) : Prop := na ≤ 24 ∧ lt < 24 ∧ (∀ t, t ≤ na → okPg (H t)) ∧ CP f 12 (H na) ∧ MP (f 56) 0 (H na) ∧ f 18 4 = nI na ∧ f 52 8 = nI na ∧ f 18 3 = nI lt ∧ ∀ t, t < na → MP (f 58) (37 * t) (H t) ∧ iAct f (slN lt na t) (H t) (H (t + 1))
def iPg (f : zF) : Prop := ∃ H na lt, iPgH f H na lt
def Inv (f : zF) : Prop := iRows f ∧ iTape f ∧ iPg f ∧ iImg f ∧ iTr f ∧ f 0 6 = f 52 1 ∧ f 3 2 = f 52 11
/-- the lasting state is untouched, status apart -/
def iq (f f' : zF) : Prop := (∀ c, c ≠ 52 → c ≠ 0 → f' c = f c) ∧ ∀ j, j ≠ 0 → j ≠ 1 → j ≠ 19 → j ≠ 20 → f' 52 j = f 52 j
theorem iq_refl (f : zF) : iq f f := ⟨fun _ _ _ => rfl, fun _ _ _ _ _ => rfl⟩
theorem iq_nz {f g h : zF} (a : iq f g) (b : nz g h) : iq f h := ⟨fun c h1 h2 => (b.1 c h1).trans (a.1 c h1 h2), fun j h0 h1 h2 h3 => (b.2 j h0 h2 h3).trans (a.2 j h0 h1 h2 h3)⟩
theorem iq_0 {f g : zF} (a : iq f g) {j : Nat} {v : Int32} : iq f (zup g 0 j v) := ⟨fun c h1 h2 => by rw [zup_ne h2]; exact a.1 c h1 h2, fun i h0 h1 h2 h3 => by rw [zup_ne (by omega)]; exact a.2 i h0 h1 h2 h3⟩
theorem iq_52 {f g : zF} (a : iq f g) {j : Nat} (hj : j = 0 ∨ j = 1 ∨ j = 19 ∨ j = 20) {v : Int32} : iq f (zup g 52 j v) := by
  refine ⟨fun c h1 h2 => by rw [zup_ne h1]; exact a.1 c h1 h2, fun i h0 h1 h2 h3 => ?_⟩
  rw [zup_eq]
  show (if i = j then v else g 52 i) = _
  rw [if_neg (by omega)]
  exact a.2 i h0 h1 h2 h3
theorem iRows_iq {f f' : zF} (h : iq f f') (a : iRows f) : iRows f' := by
  intro i hi
  have a := a i hi
  unfold iRw at a ⊢
  rw [h.1 53 (by omega) (by omega), h.1 54 (by omega) (by omega), h.1 55 (by omega) (by omega), h.1 (24 + 2 * i) (by omega) (by omega), h.1 (24 + 2 * i + 1) (by omega) (by omega)]
  exact a
theorem iTape_iq {f f' : zF} (h : iq f f') (a : iTape f) : iTape f' := by
  unfold iTape at a ⊢
  rw [h.1 4 (by omega) (by omega), h.1 5 (by omega) (by omega), h.1 59 (by omega) (by omega), h.2 10 (by omega) (by omega) (by omega) (by omega)]
  exact a
theorem CP_iq {f f' : zF} {c : Nat} {A : aPg} (h : iq f f') (h0 : 0 < c) (hc : c < 47) (hP : CP f c A) : CP f' c A := by
  unfold CP
  rw [h.1 c (by omega) (by omega), h.1 (c + 1) (by omega) (by omega), h.1 (c + 2) (by omega) (by omega), h.1 (c + 3) (by omega) (by omega), h.1 (c + 4) (by omega) (by omega), h.1 (c + 5) (by omega) (by omega)]
  exact hP
theorem iImg_iq {f f' : zF} (h : iq f f') (a : iImg f) : iImg f' := by
  intro k hk
  obtain ⟨A, ok, hP, hm⟩ := a k hk
  refine ⟨A, ok, CP_iq h (by omega) (by omega) hP, ?_⟩
  rw [h.1 60 (by omega) (by omega), h.1 61 (by omega) (by omega)]
  exact hm
theorem iTr_iq {f f' : zF} (h : iq f f') (a : iTr f) : iTr f' := by
  unfold iTr at a ⊢
  rw [h.1 22 (by omega) (by omega), h.1 23 (by omega) (by omega), h.1 62 (by omega) (by omega), h.2 24 (by omega) (by omega) (by omega) (by omega)]
  exact a
theorem iAct_eq {f f' : zF} {s : Nat} {A B : aPg} (h19 : f' 19 s = f 19 s) (h20 : f' 20 s = f 20 s) (h21 : f' 21 s = f 21 s) (h : iAct f s A B) : iAct f' s A B := by
  unfold iAct
  rw [h19, h20, h21]
  exact h
theorem iPg_iq {f f' : zF} (h : iq f f') (a : iPg f) : iPg f' := by
  obtain ⟨H, na, lt, h1, h2, h3, h4, h5, h6, h7, h8, h9⟩ := a
  refine ⟨H, na, lt, h1, h2, h3, CP_iq h (by omega) (by omega) h4, ?_⟩
  rw [h.1 56 (by omega) (by omega), h.1 18 (by omega) (by omega), h.1 58 (by omega) (by omega), h.2 8 (by omega) (by omega) (by omega) (by omega)]
  refine ⟨h5, h6, h7, h8, fun t ht => ⟨(h9 t ht).1, iAct_eq ?_ ?_ ?_ (h9 t ht).2⟩⟩ <;> rw [h.1 _ (by omega) (by omega)]
theorem Inv_iq {f f' : zF} (hI : Inv f) (h : iq f f') (hs : f' 0 6 = f' 52 1) : Inv f' := by
  obtain ⟨a, b, c, d, e, -, g⟩ := hI
  refine ⟨iRows_iq h a, iTape_iq h b, iPg_iq h c, iImg_iq h d, iTr_iq h e, hs, ?_⟩
  rw [h.1 3 (by omega) (by omega), h.2 11 (by omega) (by omega) (by omega) (by omega)]
  exact g
theorem Inv_nz {f f' : zF} (hI : Inv f) (h : nz f f') : Inv f' := by
  refine Inv_iq hI (iq_nz (iq_refl f) h) ?_
  rw [h.1 0 (by omega), h.2 1 (by omega) (by omega) (by omega)]
  exact hI.2.2.2.2.2.1
theorem Inv_pg {f : zF} (hI : Inv f) : ∃ A, okPg A ∧ CP f 12 A ∧ MP (f 56) 0 A := by
  obtain ⟨H, na, lt, h1, h2, h3, h4, h5, -⟩ := hI.2.2.1
  exact ⟨H na, h3 na (Nat.le_refl _), h4, h5⟩
theorem y0 {A B : Prop} (a : A) : ((0 : Int32) = 0 → A) ∧ (¬ (0 : Int32) = 0 → B) := ⟨fun _ => a, fun c => absurd rfl c⟩
theorem y0' {A B : Prop} (a : A) : (¬ (0 : Int32) = 0 → B) ∧ ((0 : Int32) = 0 → A) := ⟨fun c => absurd rfl c, fun _ => a⟩
theorem y1 {A B : Prop} (b : B) : ((1 : Int32) = 0 → A) ∧ (¬ (1 : Int32) = 0 → B) := ⟨fun c => absurd c (by decide), fun _ => b⟩
theorem y1' {A B : Prop} (b : B) : (¬ (1 : Int32) = 0 → B) ∧ ((1 : Int32) = 0 → A) := ⟨fun _ => b, fun c => absurd c (by decide)⟩
theorem z0 (f : zF) : nz f (zup f 52 0 0) := nz_up (nz_refl f) (Or.inl rfl)
theorem pP_L {A : aPg} (ok : okPg A) {p : Nat} (hp : p < pP A) : 0 < pL A := by
  have := (ok.2.2.2.2 p hp).1
  omega
