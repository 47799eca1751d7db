/-! ===== the class reads a page ===== -/
theorem rFro_L {β : Nat → Nat} {N : Nat} : ∀ k S S', rFro β N k S = .inr S' → pL S'.2 = pL S.2
  | 0, S, S', e => by
    unfold rFro at e
    split at e
    · cases e
    · rw [← Sum.inr.inj e]
  | k + 1, S, S', e => by
    unfold rFro at e
    split at e
    · cases e1 : tN β N (pL S.2 - 1) S with
      | inl x => rw [e1] at e; cases e
      | inr S1 =>
        rw [e1] at e
        obtain ⟨S1, v⟩ := S1
        have a := rFro_L k _ S' e
        have b := (tN_in e1).2
        rw [a]
        show pL S1.2 = pL S.2
        rw [b]
    · rw [← Sum.inr.inj e]
theorem rBck_P {β : Nat → Nat} {N : Nat} : ∀ k p S S', rBck β N k p S = .inr S' → pP S'.2 = pP S.2 ∧ pL S'.2 = pL S.2
  | 0, p, S, S', e => by
    unfold rBck at e
    rw [← Sum.inr.inj e]
    exact ⟨rfl, rfl⟩
  | k + 1, p, S, S', e => by
    unfold rBck at e
    cases e1 : tN β N (pL S.2 - 1) S with
    | inl x => rw [e1] at e; cases e
    | inr S1 =>
      rw [e1] at e
      obtain ⟨S1, v⟩ := S1
      have a := rBck_P k _ _ S' e
      have b := (tN_in e1).2
      rw [a.1, a.2]
      show pP S1.2 = pP S.2 ∧ pL S1.2 = pL S.2
      rw [b]
      exact ⟨rfl, rfl⟩
def S0 (β : Nat → Nat) (N : Nat) : St := (tkN β N 0, (0, 0, 0, fun _ => 0, fun _ => 0, fun _ => 0, fun _ => 0))
theorem rLaw_0 {β : Nat → Nat} {N : Nat} {S S' : St} (e : rLaw β N S = .inr S') : pL S'.2 = pL S.2 ∧ pP S'.2 = pP S.2 := by
  unfold rLaw at e
  cases e1 : tW β N 0 S with
  | inl x => rw [e1] at e; cases e
  | inr S1 =>
    rw [e1] at e
    have e : (bnd (tN β N 9 S1) fun q => tG β N 3 (q.1.1, sdD q.1.2 q.2)) = .inr S' := e
    cases e2 : tN β N 9 S1 with
    | inl x => rw [e2] at e; cases e
    | inr S2 =>
      rw [e2] at e
      obtain ⟨S2, v⟩ := S2
      have a := tG_2 e
      have b := (tN_in e2).2
      have c := tW_2 e1
      rw [a]
      show pL S2.2 = pL S.2 ∧ pP S2.2 = pP S.2
      rw [b.trans c]
      exact ⟨rfl, rfl⟩
/-- how a page is read to its end: the class -/
def cP (f0 : zF) (N : Nat) (r : Rs St) (K : Int32 → zF → Prop) : Prop := match r with
  | .inl e => ∀ f, cX f0 N e f → K 0 f
  | .inr S => ∀ f, frC f0 f → f 3 2 = f0 3 2 → f 4 1 = nI N → dC f S.2 (pP S.2) → okD S.2 (pP S.2) → K 1 f
section
variable {f0 f : zF} {K : Int32 → zF → Prop} {β : Nat → Nat} {N q : Nat} {S : St}
theorem c_she (hN : N ≤ 400) (hβ : ∀ j, j < N → β j < 256) (hB : ∀ j, j < N → f0 5 j = nI (β j)) (h : cR f0 β N S 0 f) (h0 : pP S.2 = 0) (hL : 1 ≤ pL S.2) (k : match rShe β N S with | .inl e => ∀ f, cX f0 N e f → K 0 f | .inr S' => ∀ f, cR f0 β N S' (pP S'.2) f → K 1 f) : ci mX3_readsSheet [.ref 3] f K := by
  unfold rShe at k
  refine w_X3_readsSheet (c_word (w := 7) hN hβ hB (by omega) h ?_)
  cases e1 : tW β N 7 S with
  | inl e => rw [e1] at k; exact fun f hf => y0 (k f hf)
  | inr S1 =>
    rw [e1] at k
    have a1 := tW_2 e1
    refine fun f1 h1 => y1 (c_fro hN hβ hB h1 (by rw [a1]; exact h0) (by rw [a1]; exact hL) ?_)
    have k : match (bnd (rFro β N 9 S1) fun S => bnd (tG β N 4 S) fun S => bnd (rBck β N (pP S.2) 0 S) fun S => tG β N 3 S) with | .inl e => ∀ f, cX f0 N e f → K 0 f | .inr S' => ∀ f, cR f0 β N S' (pP S'.2) f → K 1 f := k
    cases e2 : rFro β N 9 S1 with
    | inl e => rw [e2] at k; exact fun f hf => y0 (k f hf)
    | inr S2 =>
      rw [e2] at k
      have a2 := rFro_L 9 S1 S2 e2
      refine fun f2 h2 => y1 (c_sign (t := 4) hN hβ hB (by omega) h2 ?_)
      have k : match (bnd (tG β N 4 S2) fun S => bnd (rBck β N (pP S.2) 0 S) fun S => tG β N 3 S) with | .inl e => ∀ f, cX f0 N e f → K 0 f | .inr S' => ∀ f, cR f0 β N S' (pP S'.2) f → K 1 f := k
      cases e3 : tG β N 4 S2 with
      | inl e => rw [e3] at k; exact fun f hf => y0 (k f hf)
      | inr S3 =>
        rw [e3] at k
        have a3 := tG_2 e3
        refine fun f3 h3 => y1 (c_bck (P := pP S3.2) hN hβ hB h3 rfl (by rw [a3, a2, a1]; exact hL) ?_)
        have k : match (bnd (rBck β N (pP S3.2) 0 S3) fun S => tG β N 3 S) with | .inl e => ∀ f, cX f0 N e f → K 0 f | .inr S' => ∀ f, cR f0 β N S' (pP S'.2) f → K 1 f := k
        cases e4 : rBck β N (pP S3.2) 0 S3 with
        | inl e => rw [e4] at k; exact fun f hf => y0 (k f hf)
        | inr S4 =>
          rw [e4] at k
          have a4 := (rBck_P _ _ _ _ e4).1
          refine fun f4 h4 => y1 (c_sign (t := 3) hN hβ hB (by omega) h4 ?_)
          have k : match tG β N 3 S4 with | .inl e => ∀ f, cX f0 N e f → K 0 f | .inr S' => ∀ f, cR f0 β N S' (pP S'.2) f → K 1 f := k
          cases e5 : tG β N 3 S4 with
          | inl e => rw [e5] at k; exact fun f hf => y0 (k f hf)
          | inr S5 =>
            rw [e5] at k
            have a5 := tG_2 e5
            refine fun f5 h5 => y1 (k f5 ?_)
            rw [a5, a4]
            exact h5
theorem c_page (hN : N ≤ 400) (hβ : ∀ j, j < N → β j < 256) (hT : f 4 1 = nI N) (hB : ∀ j, j < N → f 5 j = nI (β j)) (k : cP f 0 (rPag β N) K) : ci mX3_readsPage [.ref 3] f K := by
  have start : ∀ f1, (∀ c, c ≠ 4 → f1 c = (zup (zup (zup (zup f 6 0 0) 6 1 0) 6 2 0) 4 4 0) c) → (∀ j, j ≠ 2 → j ≠ 3 → j ≠ 4 → f1 4 j = (zup (zup (zup (zup f 6 0 0) 6 1 0) 6 2 0) 4 4 0) 4 j) → lxC f1 (tkN β N 0) → cR f β N (S0 β N) 0 f1 := by
    intro f1 b1 b2 b3
    refine ⟨fun c c1 c2 c3 => ?_, ?_, ?_, b3, wf_tk (by omega), ⟨?_, ?_, ?_, fun l hl => absurd hl (by show ¬ l < 0; omega), fun p hp => absurd hp (by show ¬ p < 0; omega), fun p hp => absurd hp (by omega)⟩, ⟨by show 0 ≤ 9; omega, by show 0 ≤ 8; omega, by show 0 ≤ 9; omega, fun l hl => absurd hl (by show ¬ l < 0; omega), fun p hp => absurd hp (by show ¬ p < 0; omega), fun p hp => absurd hp (by omega), by show 0 ≤ 0; omega⟩⟩
    · rw [b1 c c2, zup_ne c2, zup_ne (by omega), zup_ne (by omega), zup_ne (by omega)]
    · rw [b1 3 (by omega), zup_ne (by omega), zup_ne (by omega), zup_ne (by omega), zup_ne (by omega)]
    · rw [b2 1 (by omega) (by omega) (by omega), up_sl (by omega), zup_ne (by omega), zup_ne (by omega), zup_ne (by omega)]
      exact hT
    · rw [b1 6 (by omega), zup_ne (by omega), up_sl (by omega), up_sl (by omega), up_at]
      rfl
    · rw [b1 6 (by omega), zup_ne (by omega), up_sl (by omega), up_at]
      rfl
    · rw [b1 6 (by omega), zup_ne (by omega), up_at]
      rfl
  -- the tape is emptied
  have clr : ∀ g : zF, frC f g → frC f (zup g 4 1 0) := fun g h c c1 c2 c3 => by rw [zup_ne c2]; exact h c c1 c2 c3
  have bad : ∀ e g, cP f 0 (.inl e) K → cX f N e g → K 0 (zup g 4 1 0) := by
    intro e g k h
    refine k _ ⟨clr g h.1, ?_, ?_, up_at⟩
    · rw [zup_ne (by omega)]
      exact h.2.1
    · rw [zup_ne (by omega)]
      exact h.2.2.1
  have dclr : ∀ {g : zF} {A : aPg} {q : Nat}, dC g A q → dC (zup g 4 1 0) A q := fun d => dC_eq (fun c c1 c2 => zup_ne (by omega)) d
  unfold rPag at k
  refine w_X3_readsPage (w_X2_makeEmpty pg6 (w_X5_rewind (q_adv (i := 0) hN hβ ⟨?_, fun j hj => ?_⟩ (by omega) up_at (fun f1 b1 b2 b3 => c_law hN hβ hB (start f1 b1 b2 b3) ?_))))
  · rw [up_sl (by omega), zup_ne (by omega), zup_ne (by omega), zup_ne (by omega)]
    exact hT
  · rw [zup_ne (by omega), zup_ne (by omega), zup_ne (by omega), zup_ne (by omega)]
    exact hB j hj
  have k : cP f 0 (bnd (rLaw β N (S0 β N)) fun S => bnd (rLts β N 8 S) fun S => bnd (rShe β N S) rEnd) K := k
  cases e1 : rLaw β N (S0 β N) with
  | inl e => rw [e1] at k; exact fun f hf => y0 (w_X5_makeEmpty (bad _ _ k hf))
  | inr S1 =>
    rw [e1] at k
    obtain ⟨l1, p1⟩ := rLaw_0 e1
    refine fun f2 h2 => y1 (c_lts hN hβ hB h2 (by rw [l1]; rfl) ?_)
    have k : cP f 0 (bnd (rLts β N 8 S1) fun S => bnd (rShe β N S) rEnd) K := k
    cases e2 : rLts β N 8 S1 with
    | inl e => rw [e2] at k; exact fun f hf => y0 (w_X5_makeEmpty (bad _ _ k hf))
    | inr S2 =>
      rw [e2] at k
      have l2 := rLts_1 e2
      have p2 := (rLts_L _ _ _ e2).2
      refine fun f3 h3 => y1 (c_she hN hβ hB h3 (by rw [p2, p1]; rfl) l2 ?_)
      have k : cP f 0 (bnd (rShe β N S2) rEnd) K := k
      cases e3 : rShe β N S2 with
      | inl e => rw [e3] at k; exact fun f hf => y0 (w_X5_makeEmpty (bad _ _ k hf))
      | inr S3 =>
        rw [e3] at k
        refine fun f4 h4 => y1 (w_X3_readsEnd ?_)
        have k : cP f 0 (rEnd S3) K := k
        unfold rEnd at k
        have t5 := h4.2.2.2.2.1.1
        rw [h4.2.2.2.1.1]
        refine ⟨fun z z1 q1 => ?_, fun z => ?_⟩
        · have z := (nI_lit (b := 0) (c := 0) (by omega) (by omega) rfl).mp z
          rw [if_pos z] at k
          rw [if_neg (by decide)] at q1
          subst q1
          refine w_X5_makeEmpty ⟨nb1, k _ (clr _ h4.1) ?_ up_at (dclr h4.2.2.2.2.2.1) h4.2.2.2.2.2.2⟩
          rw [zup_ne (by omega)]
          exact h4.2.1
        · rw [if_neg (fun y => z (by rw [y]; rfl))] at k
          refine c_fails (n := 1) h4 (fun f5 h5 => y0 (fun z1 q1 => ?_))
          rw [if_pos rfl] at q1
          subst q1
          exact w_X5_makeEmpty ⟨nb0, bad _ _ k h5⟩
end
