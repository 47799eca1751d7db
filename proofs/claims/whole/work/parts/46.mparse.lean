/-! ===== the reference reads ===== -/
def dM (g : Nat → Int32) (A : aPg) (q : Nat) : Prop := g 0 = nI (pD A) ∧ g 1 = nI (pL A) ∧ g 2 = nI (pP A) ∧ (∀ l, l < pL A → g (3 + 2 * l) = nI (pK A l) ∧ g (4 + 2 * l) = nI (pE A l)) ∧ (∀ p, p < pP A → g (19 + p) = nI (pF A p)) ∧ ∀ p, p < q → g (28 + p) = nI (pB A p)
def frM (f0 f : zF) : Prop := (∀ c, c ≠ 52 → c ≠ 57 → f c = f0 c) ∧ ∀ j, (j < 13 ∨ 18 < j) → f 52 j = f0 52 j
def mR (f0 : zF) (β : Nat → Nat) (N : Nat) (S : St) (q : Nat) (f : zF) : Prop := frM f0 f ∧ f 52 17 = 0 ∧ lxM f S.1 ∧ wfL β N S.1 ∧ dM (f 57) S.2 q ∧ okD S.2 q
def mX (f0 : zF) (β : Nat → Nat) (N : Nat) (e : Nat × Nat) (f : zF) : Prop := frM f0 f ∧ f 52 17 = nI e.1 ∧ (1 ≤ e.1 ∧ e.1 ≤ 3) ∧ f 52 18 = nI e.2 ∧ ∃ L, lxM f L ∧ wfL β N L
def mO (f0 : zF) (β : Nat → Nat) (N q : Nat) (r : Rs St) (K : zF → Prop) : Prop := match r with
  | .inl e => ∀ f, mX f0 β N e f → K f
  | .inr S => ∀ f, mR f0 β N S q f → K f
def mON (f0 : zF) (β : Nat → Nat) (N q : Nat) (r : Rs (St × Nat)) (K : Int32 → zF → Prop) : Prop := match r with
  | .inl e => ∀ f, mX f0 β N e f → ∀ x, K x f
  | .inr S => ∀ f, mR f0 β N S.1 q f → K (nI S.2) f
section
variable {f0 f : zF} {K : zF → Prop} {β : Nat → Nat} {N q : Nat} {S : St} {e : Nat × Nat}
theorem frM_tp (hT : tpM f0 β N) (h : frM f0 f) : tpM f β N := ⟨by rw [h.2 12 (by omega)]; exact hT.1, fun j hj => by rw [h.1 59 (by omega) (by omega)]; exact hT.2 j hj⟩
theorem frM_up (h : frM f0 f) {j : Nat} (hj : 13 ≤ j ∧ j ≤ 18) {v : Int32} : frM f0 (zup f 52 j v) := ⟨fun c c1 c2 => by rw [zup_ne c1]; exact h.1 c c1 c2, fun i hi => by rw [up_sl (by omega)]; exact h.2 i hi⟩
theorem frM_57 (h : frM f0 f) {j : Nat} {v : Int32} : frM f0 (zup f 57 j v) := ⟨fun c c1 c2 => by rw [zup_ne c2]; exact h.1 c c1 c2, fun i hi => by rw [zup_ne (by omega)]; exact h.2 i hi⟩
theorem lxM_eq {f' : zF} {L : Lx} (h : ∀ j, 13 ≤ j → j ≤ 16 → f' 52 j = f 52 j) (hl : lxM f L) : lxM f' L := ⟨(h 14 (by omega) (by omega)).trans hl.1, (h 15 (by omega) (by omega)).trans hl.2.1, (h 16 (by omega) (by omega)).trans hl.2.2.1, (h 13 (by omega) (by omega)).trans hl.2.2.2⟩
theorem mX_ne (h : mX f0 β N e f) : ¬ f 52 17 = 0 := by
  obtain ⟨a, b, c, -⟩ := h
  rw [b]
  exact nI_ne0 (by omega) (by omega)
theorem mX_nle (h : mX f0 β N e f) : ¬ f 52 17 ≤ 0 := by
  obtain ⟨a, b, c, -⟩ := h
  rw [b]
  exact nI_nle (by omega) (by omega)
theorem mX_57 (h : mX f0 β N e f) {j : Nat} {v : Int32} : mX f0 β N e (zup f 57 j v) := by
  obtain ⟨a, b, c, d, L, l1, l2⟩ := h
  exact ⟨frM_57 a, by rw [zup_ne (by omega)]; exact b, c, by rw [zup_ne (by omega)]; exact d, L, lxM_eq (fun j _ _ => by rw [zup_ne (by omega)]) l1, l2⟩
theorem m_badR {n : Nat} (hn : 1 ≤ n ∧ n ≤ 3) (h : mR f0 β N S q f) (k : ∀ f', mX f0 β N (n, S.1.2.1) f' → K f') : cv mX7_bad [.ref 52, .int (nI n)] f K := by
  obtain ⟨a1, a2, a3, a4, a5, a6⟩ := h
  refine w_X7_bad ⟨fun z => absurd a2 z, fun _ => k _ ⟨frM_up (frM_up a1 (by omega)) (by omega), ?_, hn, ?_, S.1, lxM_eq (fun j _ _ => by rw [up_sl (by omega), up_sl (by omega)]) a3, a4⟩⟩
  · rw [up_sl (by omega), up_at]
  · rw [up_at]
    exact a3.2.1
theorem m_badX {x : Int32} (h : mX f0 β N e f) (k : K f) : cv mX7_bad [.ref 52, .int x] f K := w_X7_bad ⟨fun _ => k, fun z => absurd z (mX_ne h)⟩
theorem m_nextR (hN : N ≤ 400) (hβ : ∀ j, j < N → β j < 256) (hT : tpM f0 β N) (h : mR f0 β N S q f) (k : ∀ f', mR f0 β N (nxS β N S) q f' → K f') : cv mX7_next [.ref 52] f K := by
  obtain ⟨a1, a2, a3, a4, a5, a6⟩ := h
  refine m_next hN hβ (frM_tp hT a1) a4.2.2.1 a3.2.2.2 (fun f' b1 b2 => k f' ⟨⟨fun c c1 c2 => by rw [b1.1 c c1]; exact a1.1 c c1 c2, fun j hj => by rw [b1.2 j (by omega) (by omega) (by omega) (by omega)]; exact a1.2 j hj⟩, by rw [b1.2 17 (by omega) (by omega) (by omega) (by omega)]; exact a2, b2, wf_tk a4.2.2.1, by rw [b1.1 57 (by omega)]; exact a5, a6⟩)
theorem m_must1 (hN : N ≤ 400) (hβ : ∀ j, j < N → β j < 256) (hT : tpM f0 β N) (h : mR f0 β N S q f) (k : ∀ f', mR f0 β N (nxS β N S) q f' → K f') : cv mX7_must [.ref 52, .int 1] f K :=
  w_X7_must ⟨fun _ => ⟨fun z => absurd h.2.1 z, fun _ => m_nextR hN hβ hT h k⟩, fun z => absurd z (by decide)⟩
theorem m_must0 (h : mR f0 β N S q f) (k : ∀ f', mX f0 β N (1, S.1.2.1) f' → K f') : cv mX7_must [.ref 52, .int 0] f K :=
  w_X7_must ⟨fun z => absurd rfl z, fun _ => m_badR (n := 1) (by omega) h (fun f' b => ⟨fun _ => k f' b, fun z => absurd z (mX_ne b)⟩)⟩
theorem m_mustX {x : Int32} (h : mX f0 β N e f) (k : K f) : cv mX7_must [.ref 52, .int x] f K :=
  w_X7_must ⟨fun _ => ⟨fun _ => k, fun z => absurd z (mX_ne h)⟩, fun _ => m_badX h ⟨fun _ => k, fun z => absurd z (mX_ne h)⟩⟩
theorem m_mustT (hN : N ≤ 400) (hβ : ∀ j, j < N → β j < 256) (hT : tpM f0 β N) {t : Nat} {x c : Int32} (hx : x = if f 52 14 = c then 1 else 0) (hc : f 52 14 = c ↔ S.1.1 = t) (h : mR f0 β N S q f) (k : mO f0 β N q (tG β N t S) K) : cv mX7_must [.ref 52, .int x] f K := by
  unfold tG at k
  rw [hx]
  by_cases z : S.1.1 = t
  · rw [if_pos z] at k
    rw [if_pos (hc.mpr z)]
    exact m_must1 hN hβ hT h k
  · rw [if_neg z] at k
    rw [if_neg (fun y => z (hc.mp y))]
    exact m_must0 h k
theorem m_endR (hN : N ≤ 400) (hβ : ∀ j, j < N → β j < 256) (hT : tpM f0 β N) (h : mR f0 β N S q f) (k : mO f0 β N q (tG β N 3 S) K) : cv mX7_mustEnd [.ref 52] f K :=
  w_X7_mustEnd ⟨fun z => absurd h.2.1 z, fun _ z1 e1 => m_mustT (t := 3) hN hβ hT e1 (by rw [h.2.2.1.1]; exact mT_4 h.2.2.2.1.1) h k⟩
theorem m_endX (h : mX f0 β N e f) (k : K f) : cv mX7_mustEnd [.ref 52] f K := w_X7_mustEnd ⟨fun _ => k, fun z => absurd z (mX_ne h)⟩
theorem m_nameR {K : Int64 → zF → Prop} (hN : N ≤ 400) (hβ : ∀ j, j < N → β j < 256) (hT : tpM f0 β N) (h : mR f0 β N S q f) (k : K (lN (nmN β S.1)) f) : cl mX7_name [.ref 52] f K := m_name hN hβ (frM_tp hT h.1) h.2.2.1 h.2.2.2.1 (fun _ => k) (fun z => absurd h.2.1 z)
theorem m_nameX {K : Int64 → zF → Prop} (hN : N ≤ 400) (hβ : ∀ j, j < N → β j < 256) (hT : tpM f0 β N) (h : mX f0 β N e f) (k : K 0 f) : cl mX7_name [.ref 52] f K := by
  obtain ⟨a, b, c, d, L, l1, l2⟩ := id h
  exact m_name hN hβ (frM_tp hT a) l1 l2 (fun z => absurd z (mX_ne h)) (fun _ => k)
theorem m_numR {K : Int32 → zF → Prop} (hN : N ≤ 400) (hβ : ∀ j, j < N → β j < 256) (hT : tpM f0 β N) {m : Nat} (hm : m < 1000) (h : mR f0 β N S q f) (k : mON f0 β N q (tN β N m S) K) : ci mX7_number [.ref 52, .int 0, .int (nI m)] f K := by
  unfold tN at k
  have t5 := h.2.2.2.1.1
  refine w_X7_number ⟨fun _ => m_figures hN (frM_tp hT h.1) h.2.2.1 h.2.2.2.1 ?_, fun z => absurd (by rw [h.2.1]; exact Int32.le_refl _) z⟩
  rw [h.2.2.1.1]
  refine ⟨fun z z2 e2 => ?_, fun z => ?_⟩
  · rw [if_neg z] at e2
    subst e2
    rw [if_neg (fun y => z ((mT_3 t5).mpr y))] at k
    exact m_must0 h (fun f' b => k f' b _)
  · have t2 := (mT_3 t5).mp z
    rw [if_pos t2] at k
    rw [if_pos t2]
    have nl := nuL_lt h.2.2.2.1 t2
    by_cases y : nuL β S.1 ≤ m
    · rw [if_pos y] at k
      refine m_in_t ?_ ?_ ?_
      · rw [Int32.toInt_toInt64, Int32.toInt_toInt64, nI_toInt (by omega)]
        show (0 : Int) ≤ _
        omega
      · rw [Int32.toInt_toInt64, Int32.toInt_toInt64, nI_toInt (by omega), nI_toInt (by omega)]
        omega
      · refine y1' (fun z6 e6 => ?_)
        rw [if_pos (by rw [h.2.2.1.1]; exact z)] at e6
        subst e6
        exact m_must1 hN hβ hT h k
    · rw [if_neg y] at k
      refine m_in_f ?_ ?_
      · rw [Int32.toInt_toInt64, Int32.toInt_toInt64, Int32.toInt_toInt64, nI_toInt (by omega), nI_toInt (by omega)]
        omega
      · exact y0' (m_badR (n := 2) (by omega) h (fun f' b z10 e10 => m_mustX b (k f' b _)))
theorem m_numX {K : Int32 → zF → Prop} {x y : Int32} (h : mX f0 β N e f) (k : K 0 f) : ci mX7_number [.ref 52, .int x, .int y] f K := w_X7_number ⟨fun z => absurd z (mX_nle h), fun _ => k⟩
theorem c_2 : (482854660462 : Int64) = lN (pkN (wbN 2) (wLn 2)) := by decide +kernel
theorem c_3 : (1651469412 : Int64) = lN (pkN (wbN 3) (wLn 3)) := by decide +kernel
theorem c_4 : (1952999790 : Int64) = lN (pkN (wbN 4) (wLn 4)) := by decide +kernel
theorem c_5 : (1835102827 : Int64) = lN (pkN (wbN 5) (wLn 5)) := by decide +kernel
theorem c_6 : (6582905 : Int64) = lN (pkN (wbN 6) (wLn 6)) := by decide +kernel
theorem c_0 : (7102839 : Int64) = lN (pkN (wbN 0) (wLn 0)) := by decide +kernel
theorem c_1 : (119183001281906 : Int64) = lN (pkN (wbN 1) (wLn 1)) := by decide +kernel
theorem c_7 : (495672714612 : Int64) = lN (pkN (wbN 7) (wLn 7)) := by decide +kernel
theorem m_kindBy {K : Int32 → zF → Prop} {L : Lx} (wf : wfL β N L) (k : K (if kdW β L = 0 then -1000000 else nI (kdW β L)) f) : ci mX7_kindBy [.long (lN (nmN β L))] f K := by
  have i2 := nm_is wf (w := 2) (by omega) c_2
  have i3 := nm_is wf (w := 3) (by omega) c_3
  have i4 := nm_is wf (w := 4) (by omega) c_4
  have i5 := nm_is wf (w := 5) (by omega) c_5
  have i6 := nm_is wf (w := 6) (by omega) c_6
  refine w_X7_kindBy ?_
  rw [i2, i3, i4, i5, i6]
  unfold kdW at k
  refine ⟨fun z2 => ⟨fun z3 => ⟨fun z4 => ⟨fun z5 => ⟨fun z6 => ?_, fun z6 => ?_⟩, fun z5 => ?_⟩, fun z4 => ?_⟩, fun z3 => ?_⟩, fun z2 => ?_⟩
  · rw [if_neg z2, if_neg z3, if_neg z4, if_neg z5, if_neg z6] at k; exact k
  · rw [if_neg z2, if_neg z3, if_neg z4, if_neg z5, if_pos z6] at k; exact k
  · rw [if_neg z2, if_neg z3, if_neg z4, if_pos z5] at k; exact k
  · rw [if_neg z2, if_neg z3, if_pos z4] at k; exact k
  · rw [if_neg z2, if_pos z3] at k; exact k
  · rw [if_pos z2] at k; exact k
theorem m_kindBy0 {K : Int32 → zF → Prop} (k : K (-1000000) f) : ci mX7_kindBy [.long 0] f K :=
  w_X7_kindBy ⟨fun _ => ⟨fun _ => ⟨fun _ => ⟨fun _ => ⟨fun _ => k, fun z => absurd z (by decide)⟩, fun z => absurd z (by decide)⟩, fun z => absurd z (by decide)⟩, fun z => absurd z (by decide)⟩, fun z => absurd z (by decide)⟩
end
