/-! ===== the page read: as a function; the class ===== -/
abbrev St : Type := Lx × aPg
abbrev Rs (α : Type) : Type := Sum (Nat × Nat) α
def bnd {α γ : Type} (r : Rs α) (k : α → Rs γ) : Rs γ := match r with
  | .inl e => .inl e
  | .inr a => k a
def nxS (β : Nat → Nat) (N : Nat) (S : St) : St := (tkN β N S.1.2.2, S.2)
def tW (β : Nat → Nat) (N w : Nat) (S : St) : Rs St := if isW β S.1 w then .inr (nxS β N S) else .inl (1, S.1.2.1)
def tG (β : Nat → Nat) (N t : Nat) (S : St) : Rs St := if S.1.1 = t then .inr (nxS β N S) else .inl (1, S.1.2.1)
def tN (β : Nat → Nat) (N m : Nat) (S : St) : Rs (St × Nat) := if S.1.1 = 2 then (if nuL β S.1 ≤ m then .inr (nxS β N S, nuL β S.1) else .inl (2, S.1.2.1)) else .inl (1, S.1.2.1)
def sdD (A : aPg) (v : Nat) : aPg := (v, pL A, pP A, pK A, pE A, pF A, pB A)
def adL (A : aPg) (k v : Nat) : aPg := (pD A, pL A + 1, pP A, upN (pK A) (pL A) k, upN (pE A) (pL A) v, pF A, pB A)
def adP (A : aPg) (v : Nat) : aPg := (pD A, pL A, pP A + 1, pK A, pE A, upN (pF A) (pP A) v, pB A)
def puB (A : aPg) (p v : Nat) : aPg := (pD A, pL A, pP A, pK A, pE A, pF A, upN (pB A) p v)
def kdW (β : Nat → Nat) (L : Lx) : Nat := if isW β L 2 then 1 else if isW β L 3 then 2 else if isW β L 4 then 3 else if isW β L 5 then 4 else if isW β L 6 then 5 else 0
def rLaw (β : Nat → Nat) (N : Nat) (S : St) : Rs St := bnd (tW β N 0 S) fun S => bnd (tN β N 9 S) fun q => tG β N 3 (q.1.1, sdD q.1.2 q.2)
def rLet2 (β : Nat → Nat) (N k : Nat) (S : St) : Rs St := bnd (tN β N 511 S) fun q => tG β N 3 (q.1.1, adL q.1.2 k q.2)
def rLet (β : Nat → Nat) (N : Nat) (S : St) : Rs St := bnd (tW β N 1 S) fun S => if kdW β S.1 = 0 then .inl (1, S.1.2.1) else rLet2 β N (kdW β S.1) (nxS β N S)
/-- letters, i of which may have come -/
def rLts (β : Nat → Nat) (N : Nat) : Nat → St → Rs St
  | 0, S => if isW β S.1 1 then .inl (3, S.1.2.1) else .inr S
  | k + 1, S => if k = 7 ∨ isW β S.1 1 then bnd (rLet β N S) (rLts β N k) else .inr S
def rFro (β : Nat → Nat) (N : Nat) : Nat → St → Rs St
  | 0, S => if S.1.1 = 2 then .inl (if nuL β S.1 < pL S.2 then 3 else 2, S.1.2.1) else .inr S
  | k + 1, S => if S.1.1 = 2 then bnd (tN β N (pL S.2 - 1) S) (fun q => rFro β N k (q.1.1, adP q.1.2 q.2)) else .inr S
def rBck (β : Nat → Nat) (N : Nat) : Nat → Nat → St → Rs St
  | 0, _, S => .inr S
  | k + 1, p, S => bnd (tN β N (pL S.2 - 1) S) (fun q => rBck β N k (p + 1) (q.1.1, puB q.1.2 p q.2))
def rShe (β : Nat → Nat) (N : Nat) (S : St) : Rs St := bnd (tW β N 7 S) fun S => bnd (rFro β N 9 S) fun S => bnd (tG β N 4 S) fun S => bnd (rBck β N (pP S.2) 0 S) fun S => tG β N 3 S
def rEnd (S : St) : Rs St := if S.1.1 = 0 then .inr S else .inl (1, S.1.2.1)
def rPag (β : Nat → Nat) (N : Nat) : Rs St := bnd (rLaw β N (tkN β N 0, (0, 0, 0, fun _ => 0, fun _ => 0, fun _ => 0, fun _ => 0))) fun S => bnd (rLts β N 8 S) fun S => bnd (rShe β N S) rEnd
def okD (A : aPg) (q : Nat) : Prop := pD A ≤ 9 ∧ pL A ≤ 8 ∧ pP A ≤ 9 ∧ (∀ l, l < pL A → 1 ≤ pK A l ∧ pK A l ≤ 5 ∧ pE A l < 512) ∧ (∀ p, p < pP A → pF A p < pL A) ∧ (∀ p, p < q → pB A p < pL A) ∧ q ≤ pP A
def dC (f : zF) (A : aPg) (q : Nat) : Prop := f 6 0 = nI (pD A) ∧ f 6 1 = nI (pL A) ∧ f 6 2 = nI (pP A) ∧ (∀ l, l < pL A → f 7 l = nI (pE A l) ∧ f 8 l = nI (pK A l) ∧ f 9 l = nI (thrN (pK A l) (pE A l))) ∧ (∀ p, p < pP A → f 10 p = nI (pF A p)) ∧ ∀ p, p < q → f 11 p = nI (pB A p)
def frC (f0 f : zF) : Prop := ∀ c, c ≠ 3 → c ≠ 4 → (c < 6 ∨ 11 < c) → f c = f0 c
def cR (f0 : zF) (β : Nat → Nat) (N : Nat) (S : St) (q : Nat) (f : zF) : Prop := frC f0 f ∧ f 3 2 = f0 3 2 ∧ f 4 1 = nI N ∧ lxC f S.1 ∧ wfL β N S.1 ∧ dC f S.2 q ∧ okD S.2 q
def cX (f0 : zF) (N : Nat) (e : Nat × Nat) (f : zF) : Prop := frC f0 f ∧ f 3 2 = nI e.1 ∧ f 3 3 = nI e.2 ∧ f 4 1 = nI N
def cO (f0 : zF) (β : Nat → Nat) (N : Nat) (q : Nat) (r : Rs St) (K : Int32 → zF → Prop) : Prop := match r with
  | .inl e => ∀ f, cX f0 N e f → K 0 f
  | .inr S => ∀ f, cR f0 β N S q f → K 1 f
def cON (f0 : zF) (β : Nat → Nat) (N : Nat) (q : Nat) (r : Rs (St × Nat)) (K : Int32 → zF → Prop) : Prop := match r with
  | .inl e => ∀ f, cX f0 N e f → K 0 f
  | .inr S => ∀ f, cR f0 β N S.1 q f → f 3 4 = nI S.2 → K 1 f
section
variable {f0 f : zF} {K : Int32 → zF → Prop} {β : Nat → Nat} {N q : Nat} {S : St}
theorem cR_tp (hB : ∀ j, j < N → f0 5 j = nI (β j)) (h : cR f0 β N S q f) : tpC f β N := ⟨h.2.2.1, fun j hj => by rw [h.1 5 (by omega) (by omega) (by omega)]; exact hB j hj⟩
theorem dC_eq {f' : zF} {A : aPg} (h : ∀ c, 6 ≤ c → c ≤ 11 → f' c = f c) (d : dC f A q) : dC f' A q := by
  unfold dC
  rw [h 6 (by omega) (by omega), h 7 (by omega) (by omega), h 8 (by omega) (by omega), h 9 (by omega) (by omega), h 10 (by omega) (by omega), h 11 (by omega) (by omega)]
  exact d
theorem c_fails {n : Nat} (h : cR f0 β N S q f) (k : ∀ f', cX f0 N (n, S.1.2.1) f' → K 0 f') : ci mX3_fails [.ref 3, .int (nI n)] f K := by
  refine w_X3_fails (k _ ⟨fun c c1 c2 c3 => by rw [zup_ne c1, zup_ne c1]; exact h.1 c c1 c2 c3, ?_, ?_, ?_⟩)
  · rw [up_sl (by omega), up_at]
  · rw [up_at]
    exact h.2.2.2.1.2.1
  · rw [zup_ne (by omega), zup_ne (by omega)]
    exact h.2.2.1
theorem c_adv {K : zF → Prop} (hN : N ≤ 400) (hβ : ∀ j, j < N → β j < 256) (hB : ∀ j, j < N → f0 5 j = nI (β j)) (h : cR f0 β N S q f) (k : ∀ f', cR f0 β N (nxS β N S) q f' → f' 3 = f 3 → K f') : cv mX5_advance [.ref 4] f K := by
  obtain ⟨a1, a2, a3, a4, a5, a6, a7⟩ := id h
  refine q_adv hN hβ (cR_tp hB h) a5.2.2.1 a4.2.2 (fun f' b1 b2 b3 => k f' ⟨fun c c1 c2 c3 => ?_, ?_, ?_, b3, wf_tk a5.2.2.1, dC_eq (fun c c1 c2 => b1 c (by omega)) a6, a7⟩ (b1 3 (by omega)))
  · rw [b1 c c2]
    exact a1 c c1 c2 c3
  · rw [b1 3 (by omega)]
    exact a2
  · rw [b2 1 (by omega) (by omega) (by omega)]
    exact a3
theorem c_word (hN : N ≤ 400) (hβ : ∀ j, j < N → β j < 256) (hB : ∀ j, j < N → f0 5 j = nI (β j)) {w : Nat} (hw : w < 8) (h : cR f0 β N S q f) (k : cO f0 β N q (tW β N w S) K) : ci mX3_takesWord [.ref 3, .ref (1000 + w)] f K := by
  unfold tW at k
  refine w_X3_takesWord hw (q_isWord hN hβ (cR_tp hB h) h.2.2.2.1 h.2.2.2.2.1 hw (fun z => y1' ?_) (fun z => y0' ?_))
  · rw [if_pos z] at k
    exact c_adv hN hβ hB h (fun f' b _ => k f' b)
  · rw [if_neg z] at k
    exact c_fails (n := 1) h (fun f' b => ⟨nb0, k f' b⟩)
theorem c_sign (hN : N ≤ 400) (hβ : ∀ j, j < N → β j < 256) (hB : ∀ j, j < N → f0 5 j = nI (β j)) {t : Nat} (ht : t < 6) (h : cR f0 β N S q f) (k : cO f0 β N q (tG β N t S) K) : ci mX3_takesSign [.ref 3, .int (nI t)] f K := by
  unfold tG at k
  have t5 := h.2.2.2.2.1.1
  refine w_X3_takesSign ?_
  rw [h.2.2.2.1.1]
  refine ⟨fun z => ?_, fun z => ?_⟩
  · rw [if_pos ((nI_eq (by omega) (by omega)).mp z)] at k
    exact c_adv hN hβ hB h (fun f' b _ => k f' b)
  · rw [if_neg (fun y => z (by rw [y]))] at k
    exact c_fails (n := 1) h (fun f' b => ⟨nb0, k f' b⟩)
theorem cR_3 {v : Int32} {j : Nat} (hj : j ≠ 2) (h : cR f0 β N S q f) : cR f0 β N S q (zup f 3 j v) := by
  obtain ⟨a1, a2, a3, a4, a5, a6, a7⟩ := h
  refine ⟨fun c c1 c2 c3 => by rw [zup_ne c1]; exact a1 c c1 c2 c3, by rw [up_sl (Ne.symm hj)]; exact a2, by rw [zup_ne (by omega)]; exact a3, ?_, a5, dC_eq (fun c c1 c2 => zup_ne (by omega)) a6, a7⟩
  unfold lxC
  rw [zup_ne (by omega)]
  exact a4
theorem c_num (hN : N ≤ 400) (hβ : ∀ j, j < N → β j < 256) (hB : ∀ j, j < N → f0 5 j = nI (β j)) {m : Nat} (hm : m < 1000) (h : cR f0 β N S q f) (k : cON f0 β N q (tN β N m S) K) : ci mX3_takesNumber [.ref 3, .int (nI m)] f K := by
  unfold tN at k
  have t5 := h.2.2.2.2.1.1
  refine w_X3_takesNumber ?_
  rw [h.2.2.2.1.1]
  refine ⟨fun z => ?_, fun z => ?_⟩
  · have z : S.1.1 = 2 := (nI_lit (b := 2) (c := 2) (by omega) (by omega) rfl).mp z
    rw [if_pos z] at k
    have nl := nuL_lt h.2.2.2.2.1 z
    refine q_numberTold hN (cR_tp hB h) h.2.2.2.1 h.2.2.2.2.1 z ⟨fun y => ?_, fun y => ?_⟩
    · rw [if_pos ((nI_leI (by omega) (by omega)).mp y)] at k
      exact c_adv hN hβ hB (cR_3 (by omega) h) (fun f' b e => k f' b (by rw [e]; exact up_at))
    · rw [if_neg (fun w => y (nI_le w (by omega)))] at k
      exact c_fails (n := 2) (cR_3 (by omega) h) (fun f' b => ⟨nb0, k f' b⟩)
  · rw [if_neg (fun y => z (by rw [y]; rfl))] at k
    exact c_fails (n := 1) h (fun f' b => ⟨nb0, k f' b⟩)
theorem cR_d {S' : St} {q' : Nat} {f' : zF} (h : cR f0 β N S q f) (e : S'.1 = S.1) (h1 : ∀ c, (c < 6 ∨ 11 < c) → f' c = f c) (d : dC f' S'.2 q') (ok : okD S'.2 q') : cR f0 β N S' q' f' := by
  obtain ⟨a1, a2, a3, a4, a5, a6, a7⟩ := h
  refine ⟨fun c c1 c2 c3 => by rw [h1 c c3]; exact a1 c c1 c2 c3, by rw [h1 3 (by omega)]; exact a2, by rw [h1 4 (by omega)]; exact a3, ?_, by rw [e]; exact a5, d, ok⟩
  unfold lxC
  rw [e, h1 4 (by omega)]
  exact a4
theorem nb_of {r : Int32} (h : r = 0 ∨ r = 1) : narrow .boolean (.int r) = .int r := by
  rcases h with rfl | rfl <;> rfl
theorem cO_nb {r : Rs St} (k : cO f0 β N q r K) : cO f0 β N q r (fun r f => narrow .boolean (.int r) = .int r ∧ K r f) := by
  cases r with
  | inl e => exact fun f hf => ⟨nb0, k f hf⟩
  | inr S => exact fun f hf => ⟨nb1, k f hf⟩
theorem sd_c {v : Nat} {A : aPg} (d : dC f A q) (ok : okD A q) (hv : v ≤ 9) : dC (zup f 6 0 (nI v)) (sdD A v) q ∧ okD (sdD A v) q := by
  obtain ⟨a1, a2, a3, a4, a5, a6⟩ := d
  refine ⟨⟨up_at, by rw [up_sl (by omega)]; exact a2, by rw [up_sl (by omega)]; exact a3, fun l hl => ?_, fun p hp => ?_, fun p hp => ?_⟩, ⟨hv, ok.2⟩⟩
  · rw [zup_ne (by omega), zup_ne (by omega), zup_ne (by omega)]
    exact a4 l hl
  · rw [zup_ne (by omega)]
    exact a5 p hp
  · rw [zup_ne (by omega)]
    exact a6 p hp
theorem tN_in {m : Nat} {S' : St} {v : Nat} (e : tN β N m S = .inr (S', v)) : v ≤ m ∧ S'.2 = S.2 := by
  unfold tN at e
  by_cases z : S.1.1 = 2
  · rw [if_pos z] at e
    by_cases y : nuL β S.1 ≤ m
    · rw [if_pos y] at e
      obtain ⟨rfl, rfl⟩ := Prod.mk.inj (Sum.inr.inj e)
      exact ⟨y, rfl⟩
    · rw [if_neg y] at e
      cases e
  · rw [if_neg z] at e
    cases e
theorem c_law (hN : N ≤ 400) (hβ : ∀ j, j < N → β j < 256) (hB : ∀ j, j < N → f0 5 j = nI (β j)) (h : cR f0 β N S q f) (k : cO f0 β N q (rLaw β N S) K) : ci mX3_readsLaw [.ref 3] f K := by
  unfold rLaw at k
  refine w_X3_readsLaw (c_word (w := 0) hN hβ hB (by omega) h ?_)
  cases e1 : tW β N 0 S with
  | inl e => rw [e1] at k; exact fun f hf => y0 (k f hf)
  | inr S1 =>
    rw [e1] at k
    refine fun f1 h1 => y1 (c_num (m := 9) hN hβ hB (by omega) h1 ?_)
    have k : cO f0 β N q (bnd (tN β N 9 S1) fun q => tG β N 3 (q.1.1, sdD q.1.2 q.2)) K := k
    cases e2 : tN β N 9 S1 with
    | inl e => rw [e2] at k; exact fun f hf => y0' (k f hf)
    | inr S2 =>
      rw [e2] at k
      obtain ⟨S2, v⟩ := S2
      have hv := (tN_in e2).1
      refine fun f2 h2 h3 => y1' ?_
      rw [h3]
      obtain ⟨d, ok⟩ := sd_c h2.2.2.2.2.2.1 h2.2.2.2.2.2.2 hv
      exact c_sign (t := 3) hN hβ hB (by omega) (cR_d (S' := (S2.1, sdD S2.2 v)) h2 rfl (fun c hc => zup_ne (by omega)) d ok) (cO_nb k)
theorem c_sort (hN : N ≤ 400) (hβ : ∀ j, j < N → β j < 256) (hB : ∀ j, j < N → f0 5 j = nI (β j)) (h : cR f0 β N S q f) (k : K (nI (kdW β S.1)) f) : ci mX3_sortTold [.ref 3] f K := by
  have wd : ∀ {w : Nat} {K2 : Int32 → zF → Prop}, w < 8 → (isW β S.1 w → K2 1 f) → (¬ isW β S.1 w → K2 0 f) → ci mX5_isWord [.ref 4, .ref (1000 + w)] f K2 := fun hw a b => q_isWord hN hβ (cR_tp hB h) h.2.2.2.1 h.2.2.2.2.1 hw a b
  unfold kdW at k
  refine w_X3_sortTold (wd (w := 2) (by omega) (fun z => y1 ?_) (fun z => y0 (wd (w := 3) (by omega) (fun z3 => y1 ?_) (fun z3 => y0 (wd (w := 4) (by omega) (fun z4 => y1 ?_) (fun z4 => y0 (wd (w := 5) (by omega) (fun z5 => y1 ?_) (fun z5 => y0 (wd (w := 6) (by omega) (fun z6 => y1 ?_) (fun z6 => y0 ?_))))))))))
  · rw [if_pos z] at k; exact k
  · rw [if_neg z, if_pos z3] at k; exact k
  · rw [if_neg z, if_neg z3, if_pos z4] at k; exact k
  · rw [if_neg z, if_neg z3, if_neg z4, if_pos z5] at k; exact k
  · rw [if_neg z, if_neg z3, if_neg z4, if_neg z5, if_pos z6] at k; exact k
  · rw [if_neg z, if_neg z3, if_neg z4, if_neg z5, if_neg z6] at k; exact k
end
