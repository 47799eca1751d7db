/-! ===== the law: its loop, its start ===== -/
/-- one call on the class, then the same on the reference: one answer, and the invariant again -/
def pr2 (Inv : zF → Prop) (M1 M2 : zMt) (av : List Value) (f : zF) : Prop := ∀ K : Int32 → Int32 → zF → Prop, (∀ r f', Inv f' → K r r f') → ci M1 (.ref 0 :: av) f (fun r1 f1 => ci M2 (.ref 52 :: av) f1 (fun r2 f2 => K r1 r2 f2))
def zPairs (Inv : zF → Prop) : Prop := (∀ (a0 : Int32) (a1 : Int32) (a2 : Int32) (f : zF), Inv f → pr2 Inv mX6_row mX7_row [.int a0, .int a1, .int a2] f) ∧ (∀ (a0 : Int32) (a1 : Int32) (a2 : Int32) (f : zF), Inv f → pr2 Inv mX6_set mX7_set [.int a0, .int a1, .int a2] f) ∧ (∀ (a0 : Int32) (a1 : Int32) (a2 : Int32) (a3 : Int32) (a4 : Int32) (f : zF), Inv f → pr2 Inv mX6_copy mX7_copy [.int a0, .int a1, .int a2, .int a3, .int a4] f) ∧ (∀ (a0 : Int32) (f : zF), Inv f → pr2 Inv mX6_drop mX7_drop [.int a0] f) ∧ (∀ (a0 : Int64) (a1 : Int32) (f : zF), Inv f → pr2 Inv mX6_feed mX7_feed [.long a0, .int a1] f) ∧ (∀ (f : zF), Inv f → pr2 Inv mX6_page mX7_page [] f) ∧ (∀ (f : zF), Inv f → pr2 Inv mX6_fault mX7_fault [] f) ∧ (∀ (a0 : Int32) (a1 : Int32) (a2 : Int32) (f : zF), Inv f → pr2 Inv mX6_write mX7_write [.int a0, .int a1, .int a2] f) ∧ (∀ (f : zF), Inv f → pr2 Inv mX6_turn mX7_turn [] f) ∧ (∀ (f : zF), Inv f → pr2 Inv mX6_undo mX7_undo [] f) ∧ (∀ (a0 : Int32) (a1 : Int32) (f : zF), Inv f → pr2 Inv mX6_at mX7_at [.int a0, .int a1] f) ∧ (∀ (a0 : Int32) (a1 : Int32) (f : zF), Inv f → pr2 Inv mX6_letter mX7_letter [.int a0, .int a1] f) ∧ (∀ (a0 : Int32) (a1 : Int32) (a2 : Int32) (f : zF), Inv f → pr2 Inv mX6_light mX7_light [.int a0, .int a1, .int a2] f) ∧ (∀ (a0 : Int32) (a1 : Int32) (a2 : Int32) (a3 : Int32) (f : zF), Inv f → pr2 Inv mX6_damp mX7_damp [.int a0, .int a1, .int a2, .int a3] f) ∧ (∀ (a0 : Int32) (a1 : Int32) (f : zF), Inv f → pr2 Inv mX6_read mX7_read [.int a0, .int a1] f) ∧ (∀ (a0 : Int32) (a1 : Int32) (f : zF), Inv f → pr2 Inv mX6_behind mX7_behind [.int a0, .int a1] f) ∧ (∀ (a0 : Int32) (f : zF), Inv f → pr2 Inv mX6_ways mX7_ways [.int a0] f) ∧ (∀ (a0 : Int32) (f : zF), Inv f → pr2 Inv mX6_anew mX7_anew [.int a0] f) ∧ (∀ (a0 : Int32) (a1 : Int32) (f : zF), Inv f → pr2 Inv mX6_fits mX7_fits [.int a0, .int a1] f) ∧ (∀ (a0 : Int32) (f : zF), Inv f → pr2 Inv mX6_harm mX7_harm [.int a0] f) ∧ (∀ (a0 : Int32) (f : zF), Inv f → pr2 Inv mX6_leastHarm mX7_leastHarm [.int a0] f) ∧ (∀ (a0 : Int32) (f : zF), Inv f → pr2 Inv mX6_safe mX7_safe [.int a0] f) ∧ (∀ (a0 : Int32) (a1 : Int32) (a2 : Int32) (f : zF), Inv f → pr2 Inv mX6_over mX7_over [.int a0, .int a1, .int a2] f) ∧ (∀ (a0 : Int32) (f : zF), Inv f → pr2 Inv mX6_image mX7_image [.int a0] f) ∧ (∀ (a0 : Int32) (f : zF), Inv f → pr2 Inv mX6_restore mX7_restore [.int a0] f) ∧ (∀ (a0 : Int32) (f : zF), Inv f → pr2 Inv mX6_kind mX7_kind [.int a0] f) ∧ (∀ (a0 : Int32) (a1 : Int32) (f : zF), Inv f → pr2 Inv mX6_as mX7_as [.int a0, .int a1] f) ∧ (∀ (a0 : Int32) (a1 : Int32) (f : zF), Inv f → pr2 Inv mX6_ask mX7_ask [.int a0, .int a1] f) ∧ (∀ (a0 : Int32) (f : zF), Inv f → pr2 Inv mX6_trace mX7_trace [.int a0] f) ∧ (∀ (a0 : Int32) (f : zF), Inv f → pr2 Inv mX6_count mX7_count [.int a0] f) ∧ (∀ (f : zF), Inv f → pr2 Inv mX6_status mX7_status [] f)
theorem Z_congr {X : zX} {M : zMt} {pc : Nat} {lv : List (Nat × Value)} {st : List Value} {S S' : zS} (h1 : S.1 = S'.1) (h2 : S.2.1 = S'.2.1) (h3 : ∀ E, zws E S = zws E S') (k : Z X M pc lv st S') : Z X M pc lv st S := by
  obtain ⟨p, l, e, R, s, m, args, below, meth, c, E, n0, z0, Q⟩ := X
  intro ok cap H locs ls hP hS hl
  have a := k ok (by rw [← h1, ← h2]; exact cap) H locs ls (by rw [← h3]; exact hP) hS hl
  rw [← h1, ← h2] at a
  exact a
theorem z_lawret {X : zX} {lv : List (Nat × Value)} {S : zS} {b : Nat} (hL : zLaw X #[.ref b]) : Z X mL_law 1122 lv [.int 1] S := by
  obtain ⟨p, l, e, R, s, m, args, below, meth, c, E, n0, z0, Q⟩ := X
  intro ok cap H locs ls hP hS hl
  obtain ⟨rfl, rfl, rfl, rfl⟩ := hL
  obtain ⟨hx, hb, hml, hown, hts, hr, hlk, hnm, hfr, hlo, hK, hKh, hsz⟩ := id ok
  have hc : room_1.cells = 600000 := rfl
  have hs : room_1.slots = 7302249 := rfl
  refine va_forget (fun q hq => ?_) ?_
  · have h1 : E.2.2.1 ≤ q.base := hS.2.2 q hq
    omega
  · refine W.widen (k := 600000) (n := 7302249) (by omega) (by omega) ?_
    exact lw_ret hx hb hr hlk dL_law_1122
theorem law_loop {Inv : zF → Prop} (hI : zPairs Inv) {X : zX} {L : Nat} {xs : Nat → Int32} {b : Nat} (hX : zScr X L xs) (hW : zLaw X #[.ref b]) (hL : L ≤ 3072) : ∀ (n i : Nat) (f : zF), L + 1 ≤ i + n → i ≤ L + 6 → Inv f → Z X mL_law 18 [(0, .ref 1200), (1, .ref 0), (2, .ref 52), (3, .int (nI i))] [] (zC f) := by
  intro n
  induction n with
  | zero =>
    intro i f h1 h2 hf
    refine l_L_law_18 hX ⟨fun _ => z_lawret hW, fun h => absurd ?_ h⟩
    rw [Int32.lt_iff_toInt_lt, show (6 : Int32) = nI 6 from rfl, pk_sub_toInt (by omega) (by omega), nI_toInt (by omega)]
    omega
  | succ n ih =>
    intro i f h1 h2 hf
    refine l_L_law_18 hX ⟨fun _ => z_lawret hW, fun h => ?_⟩
    have hle : i + 6 ≤ L := by
      apply Nat.le_of_not_lt
      intro h3
      apply h
      rw [Int32.lt_iff_toInt_lt, show (6 : Int32) = nI 6 from rfl, pk_sub_toInt (by omega) (by omega), nI_toInt (by omega)]
      omega
    have hv : ∀ k, k < 6 → vp_in (nI i + nI k) L := fun k hk => by
      rw [nI_add]
      exact vp_in_nI (by omega) (by omega)
    have hnx : ∀ f', Inv f' → Z X mL_law 18 [(0, .ref 1200), (1, .ref 0), (2, .ref 52), (3, .int (nI i + 6))] [] (zC f') := fun f' h' => by
      rw [show (6 : Int32) = nI 6 from rfl, nI_add]
      exact ih (i + 6) f' (by omega) (by omega) h'
    have hK : ∀ (r : Int32) (f' : zF), Inv f' → ((r = r → Z X mL_law 18 [(0, .ref 1200), (1, .ref 0), (2, .ref 52), (3, .int (nI i + 6))] [] (zC f')) ∧ (¬ r = r → False)) := fun r f' h' => ⟨fun _ => hnx f' h', fun q => q rfl⟩
    have hv0 : vp_in (nI i) L := vp_in_nI (by omega) (by omega)
    obtain ⟨p0, p1, p2, p3, p4, p5, p6, p7, p8, p9, p10, p11, p12, p13, p14, p15, p16, p17, p18, p19, p20, p21, p22, p23, p24, p25, p26, p27, p28, p29, p30⟩ := hI
    refine ⟨⟨hv0, hv 1 (by decide), hv 2 (by decide), hv 3 (by decide), hv 4 (by decide), hv 5 (by decide)⟩, fun _ => p0 _ _ _ f hf (fun r1 r2 f2 => (r1 = r2 → Z X mL_law 18 [(0, .ref 1200), (1, .ref 0), (2, .ref 52), (3, .int (nI i + 6))] [] (zC f2)) ∧ (¬ r1 = r2 → False)) hK, fun _ => p1 _ _ _ f hf (fun r1 r2 f2 => (r1 = r2 → Z X mL_law 18 [(0, .ref 1200), (1, .ref 0), (2, .ref 52), (3, .int (nI i + 6))] [] (zC f2)) ∧ (¬ r1 = r2 → False)) hK, fun _ => p2 _ _ _ _ _ f hf (fun r1 r2 f2 => (r1 = r2 → Z X mL_law 18 [(0, .ref 1200), (1, .ref 0), (2, .ref 52), (3, .int (nI i + 6))] [] (zC f2)) ∧ (¬ r1 = r2 → False)) hK, fun _ => p3 _ f hf (fun r1 r2 f2 => (r1 = r2 → Z X mL_law 18 [(0, .ref 1200), (1, .ref 0), (2, .ref 52), (3, .int (nI i + 6))] [] (zC f2)) ∧ (¬ r1 = r2 → False)) hK, fun _ => p4 _ _ f hf (fun r1 r2 f2 => (r1 = r2 → Z X mL_law 18 [(0, .ref 1200), (1, .ref 0), (2, .ref 52), (3, .int (nI i + 6))] [] (zC f2)) ∧ (¬ r1 = r2 → False)) hK, fun _ => p5 f hf (fun r1 r2 f2 => (r1 = r2 → Z X mL_law 18 [(0, .ref 1200), (1, .ref 0), (2, .ref 52), (3, .int (nI i + 6))] [] (zC f2)) ∧ (¬ r1 = r2 → False)) hK, fun _ => p6 f hf (fun r1 r2 f2 => (r1 = r2 → Z X mL_law 18 [(0, .ref 1200), (1, .ref 0), (2, .ref 52), (3, .int (nI i + 6))] [] (zC f2)) ∧ (¬ r1 = r2 → False)) hK, fun _ => p7 _ _ _ f hf (fun r1 r2 f2 => (r1 = r2 → Z X mL_law 18 [(0, .ref 1200), (1, .ref 0), (2, .ref 52), (3, .int (nI i + 6))] [] (zC f2)) ∧ (¬ r1 = r2 → False)) hK, fun _ => p8 f hf (fun r1 r2 f2 => (r1 = r2 → Z X mL_law 18 [(0, .ref 1200), (1, .ref 0), (2, .ref 52), (3, .int (nI i + 6))] [] (zC f2)) ∧ (¬ r1 = r2 → False)) hK, fun _ => p9 f hf (fun r1 r2 f2 => (r1 = r2 → Z X mL_law 18 [(0, .ref 1200), (1, .ref 0), (2, .ref 52), (3, .int (nI i + 6))] [] (zC f2)) ∧ (¬ r1 = r2 → False)) hK, fun _ => p10 _ _ f hf (fun r1 r2 f2 => (r1 = r2 → Z X mL_law 18 [(0, .ref 1200), (1, .ref 0), (2, .ref 52), (3, .int (nI i + 6))] [] (zC f2)) ∧ (¬ r1 = r2 → False)) hK, fun _ => p11 _ _ f hf (fun r1 r2 f2 => (r1 = r2 → Z X mL_law 18 [(0, .ref 1200), (1, .ref 0), (2, .ref 52), (3, .int (nI i + 6))] [] (zC f2)) ∧ (¬ r1 = r2 → False)) hK, fun _ => p12 _ _ _ f hf (fun r1 r2 f2 => (r1 = r2 → Z X mL_law 18 [(0, .ref 1200), (1, .ref 0), (2, .ref 52), (3, .int (nI i + 6))] [] (zC f2)) ∧ (¬ r1 = r2 → False)) hK, fun _ => p13 _ _ _ _ f hf (fun r1 r2 f2 => (r1 = r2 → Z X mL_law 18 [(0, .ref 1200), (1, .ref 0), (2, .ref 52), (3, .int (nI i + 6))] [] (zC f2)) ∧ (¬ r1 = r2 → False)) hK, fun _ => p14 _ _ f hf (fun r1 r2 f2 => (r1 = r2 → Z X mL_law 18 [(0, .ref 1200), (1, .ref 0), (2, .ref 52), (3, .int (nI i + 6))] [] (zC f2)) ∧ (¬ r1 = r2 → False)) hK, fun _ => p15 _ _ f hf (fun r1 r2 f2 => (r1 = r2 → Z X mL_law 18 [(0, .ref 1200), (1, .ref 0), (2, .ref 52), (3, .int (nI i + 6))] [] (zC f2)) ∧ (¬ r1 = r2 → False)) hK, fun _ => p16 _ f hf (fun r1 r2 f2 => (r1 = r2 → Z X mL_law 18 [(0, .ref 1200), (1, .ref 0), (2, .ref 52), (3, .int (nI i + 6))] [] (zC f2)) ∧ (¬ r1 = r2 → False)) hK, fun _ => p17 _ f hf (fun r1 r2 f2 => (r1 = r2 → Z X mL_law 18 [(0, .ref 1200), (1, .ref 0), (2, .ref 52), (3, .int (nI i + 6))] [] (zC f2)) ∧ (¬ r1 = r2 → False)) hK, fun _ => p18 _ _ f hf (fun r1 r2 f2 => (r1 = r2 → Z X mL_law 18 [(0, .ref 1200), (1, .ref 0), (2, .ref 52), (3, .int (nI i + 6))] [] (zC f2)) ∧ (¬ r1 = r2 → False)) hK, fun _ => p19 _ f hf (fun r1 r2 f2 => (r1 = r2 → Z X mL_law 18 [(0, .ref 1200), (1, .ref 0), (2, .ref 52), (3, .int (nI i + 6))] [] (zC f2)) ∧ (¬ r1 = r2 → False)) hK, fun _ => p20 _ f hf (fun r1 r2 f2 => (r1 = r2 → Z X mL_law 18 [(0, .ref 1200), (1, .ref 0), (2, .ref 52), (3, .int (nI i + 6))] [] (zC f2)) ∧ (¬ r1 = r2 → False)) hK, fun _ => p21 _ f hf (fun r1 r2 f2 => (r1 = r2 → Z X mL_law 18 [(0, .ref 1200), (1, .ref 0), (2, .ref 52), (3, .int (nI i + 6))] [] (zC f2)) ∧ (¬ r1 = r2 → False)) hK, fun _ => p22 _ _ _ f hf (fun r1 r2 f2 => (r1 = r2 → Z X mL_law 18 [(0, .ref 1200), (1, .ref 0), (2, .ref 52), (3, .int (nI i + 6))] [] (zC f2)) ∧ (¬ r1 = r2 → False)) hK, fun _ => p23 _ f hf (fun r1 r2 f2 => (r1 = r2 → Z X mL_law 18 [(0, .ref 1200), (1, .ref 0), (2, .ref 52), (3, .int (nI i + 6))] [] (zC f2)) ∧ (¬ r1 = r2 → False)) hK, fun _ => p24 _ f hf (fun r1 r2 f2 => (r1 = r2 → Z X mL_law 18 [(0, .ref 1200), (1, .ref 0), (2, .ref 52), (3, .int (nI i + 6))] [] (zC f2)) ∧ (¬ r1 = r2 → False)) hK, fun _ => p25 _ f hf (fun r1 r2 f2 => (r1 = r2 → Z X mL_law 18 [(0, .ref 1200), (1, .ref 0), (2, .ref 52), (3, .int (nI i + 6))] [] (zC f2)) ∧ (¬ r1 = r2 → False)) hK, fun _ => p26 _ _ f hf (fun r1 r2 f2 => (r1 = r2 → Z X mL_law 18 [(0, .ref 1200), (1, .ref 0), (2, .ref 52), (3, .int (nI i + 6))] [] (zC f2)) ∧ (¬ r1 = r2 → False)) hK, fun _ => p27 _ _ f hf (fun r1 r2 f2 => (r1 = r2 → Z X mL_law 18 [(0, .ref 1200), (1, .ref 0), (2, .ref 52), (3, .int (nI i + 6))] [] (zC f2)) ∧ (¬ r1 = r2 → False)) hK, fun _ => p28 _ f hf (fun r1 r2 f2 => (r1 = r2 → Z X mL_law 18 [(0, .ref 1200), (1, .ref 0), (2, .ref 52), (3, .int (nI i + 6))] [] (zC f2)) ∧ (¬ r1 = r2 → False)) hK, fun _ => p29 _ f hf (fun r1 r2 f2 => (r1 = r2 → Z X mL_law 18 [(0, .ref 1200), (1, .ref 0), (2, .ref 52), (3, .int (nI i + 6))] [] (zC f2)) ∧ (¬ r1 = r2 → False)) hK, fun _ => p30 f hf (fun r1 r2 f2 => (r1 = r2 → Z X mL_law 18 [(0, .ref 1200), (1, .ref 0), (2, .ref 52), (3, .int (nI i + 6))] [] (zC f2)) ∧ (¬ r1 = r2 → False)) hK, fun _ _ _ _ _ _ _ _ _ _ _ _ _ _ _ _ _ _ _ _ _ _ _ _ _ _ _ _ _ _ _ => hnx f hf⟩
def zNone (S : zS) : Prop := ∀ q j, 25 ≤ j → S.2.2.2.1 q j = none
theorem zNone_0 : zNone zS00 := fun _ _ _ => rfl
theorem zNone_new {S : zS} {sh : Nat × Nat} {N : Nat} (h : zNone S) : zNone (znew S sh N) := by
  intro q j hj
  show (if q = S.1 then none else S.2.2.2.1 q j) = none
  split
  · rfl
  · exact h q j hj
theorem zNone_set {S : zS} {a b : Nat} {v : Int32} (h : zNone S) : zNone (zset S a b v) := h
theorem zNone_setr {S : zS} {a b : Nat} {v : Option Nat} (hb : b < 25) (h : zNone S) : zNone (zsetr S a b v) := by
  intro q j hj
  show (if q = a ∧ j = b then v else S.2.2.2.1 q j) = none
  rw [if_neg (by omega)]
  exact h q j hj
theorem zNone_tX4 {S : zS} {k : Nat} (h : zNone S) : zNone (tX4 S k) := (zNone_set (zNone_setr (by decide) (zNone_new h)))
theorem zNone_tX2 {S : zS} {k : Nat} (h : zNone S) : zNone (tX2 S k) := (zNone_setr (by decide) (zNone_new (zNone_setr (by decide) (zNone_new (zNone_setr (by decide) (zNone_new (zNone_setr (by decide) (zNone_new (zNone_setr (by decide) (zNone_new h))))))))))
theorem zNone_tX0 {S : zS} {k : Nat} (h : zNone S) : zNone (tX0 S k) := (zNone_setr (by decide) (zNone_new (zNone_setr (by decide) (zNone_new (zNone_setr (by decide) (zNone_new h))))))
theorem zNone_tX1 {S : zS} {k : Nat} (h : zNone S) : zNone (tX1 S k) := (zNone_setr (by decide) (zNone_new h))
theorem zNone_tX5 {S : zS} {k : Nat} (h : zNone S) : zNone (tX5 S k) := (zNone_setr (by decide) (zNone_new h))
theorem zNone_tX3 {S : zS} {k : Nat} (h : zNone S) : zNone (tX3 S k) := (zNone_setr (by decide) (zNone_tX2 (zNone_new (zNone_setr (by decide) (zNone_tX5 (zNone_new h))))))
theorem zNone_zS1 : zNone zS1 := zNone_new zNone_0
set_option maxRecDepth 20000 in
theorem zNone_tX6 : zNone tX6 := (zNone_setr (by decide) (zNone_tX2 (zNone_new (zNone_setr (by decide) (zNone_tX2 (zNone_new (zNone_setr (by decide) (zNone_tX4 (zNone_new (zNone_setr (by decide) (zNone_tX4 (zNone_new (zNone_setr (by decide) (zNone_tX4 (zNone_new (zNone_setr (by decide) (zNone_tX4 (zNone_new (zNone_setr (by decide) (zNone_tX4 (zNone_new (zNone_setr (by decide) (zNone_tX4 (zNone_new (zNone_setr (by decide) (zNone_tX4 (zNone_new (zNone_setr (by decide) (zNone_tX4 (zNone_new (zNone_setr (by decide) (zNone_tX1 (zNone_new (zNone_setr (by decide) (zNone_tX0 (zNone_new (zNone_setr (by decide) (zNone_tX2 (zNone_new (zNone_setr (by decide) (zNone_tX3 (zNone_new (zNone_setr (by decide) (zNone_new (zNone_setr (by decide) (zNone_new zNone_zS1))))))))))))))))))))))))))))))))))))))))))))))
theorem zNone_zS2 : zNone zS2 := zNone_new zNone_tX6
set_option maxRecDepth 20000 in
theorem zNone_tX7 : zNone tX7 := (zNone_setr (by decide) (zNone_new (zNone_setr (by decide) (zNone_new (zNone_setr (by decide) (zNone_new (zNone_setr (by decide) (zNone_new (zNone_setr (by decide) (zNone_new (zNone_setr (by decide) (zNone_new (zNone_setr (by decide) (zNone_new (zNone_setr (by decide) (zNone_new (zNone_setr (by decide) (zNone_new (zNone_setr (by decide) (zNone_set (zNone_set (zNone_set (zNone_set (zNone_set (zNone_set (zNone_set (zNone_set (zNone_new zNone_zS2))))))))))))))))))))))))))))
def zf0 : zF := tX7.2.2.2.2
set_option maxRecDepth 100000 in
theorem tX7_sh : ∀ q, q < 63 → tX7.2.2.1 q = zSH q := by decide +kernel
set_option maxRecDepth 100000 in
theorem tX7_rf : ∀ q, q < 63 → ∀ j, j < 25 → tX7.2.2.2.1 q j = zRF q j := by decide +kernel
theorem zRF_len : ∀ q, q < 63 → (zRFl.getD q []).length ≤ 25 := by decide
theorem tX7_ws (E : zE) : zws E tX7 = zws E (zC zf0) := by
  have hn : tX7.1 = 63 := by decide +kernel
  unfold zws
  rw [hn]
  apply List.map_congr_left
  intro k hk
  have hk : k < 63 := List.mem_range.mp hk
  have h1 : tX7.2.2.1 k = (zC zf0).2.2.1 k := tX7_sh k hk
  have h2 : tX7.2.2.2.1 k = (zC zf0).2.2.2.1 k := by
    funext j
    rcases Nat.lt_or_ge j 25 with h | h
    · exact tX7_rf k hk j h
    · rw [zNone_tX7 k j h]
      show none = (zRFl.getD k []).getD j none
      rw [List.getD_eq_getElem?_getD (l := zRFl.getD k []), List.getElem?_eq_none (Nat.le_trans (zRF_len k hk) h)]
      rfl
  have h3 : tX7.2.2.2.2 = (zC zf0).2.2.2.2 := rfl
  unfold zcel zfs
  rw [h1, h2, h3]
set_option maxRecDepth 100000 in
set_option maxHeartbeats 4000000 in
theorem law_begin {Inv : zF → Prop} (hI : zPairs Inv) (h0 : Inv zf0) {X : zX} {L : Nat} {xs : Nat → Int32} {b : Nat} (hX : zScr X L xs) (hW : zLaw X #[.ref b]) (hL : L ≤ 3072) (hcap : ∀ a b, a ≤ 600000 → b ≤ 7302249 → zcap X a b) : Z X mL_law 0 [(0, .ref 1200)] [] zS00 := by
  refine z_new (pc := 0) zc6 dL_law_0 nw_L_7 def_X6 (hcap _ _ (by decide) (by decide)) (by decide) ?_
  show Z X mL_law 3 [(0, .ref 1200)] [.ref 0] zS1
  refine z_dup (pc := 3) dL_law_3 rfl ?_
  refine z_callC (pc := 4) dL_law_4 lk_L_9 rfl (by decide) (by decide) rfl ct_X6 (hcap _ _ (by decide +kernel) (by decide +kernel)) (by decide +kernel) ⟨by decide +kernel, by decide +kernel⟩ ?_
  refine z_astore_n (pc := 7) (lv' := [(1, .ref 0), (0, .ref 1200)]) dL_law_7 (Nat.le_of_ble_eq_true rfl) rfl ?_
  refine z_new (pc := 8) zc7 dL_law_8 nw_L_10 def_X7 (hcap _ _ (by decide +kernel) (by decide +kernel)) (by decide +kernel) ?_
  have e6 : tX6.1 = 52 := by decide +kernel
  rw [e6]
  show Z X mL_law 11 [(1, .ref 0), (0, .ref 1200)] [.ref 52] zS2
  refine z_dup (pc := 11) dL_law_11 rfl ?_
  refine z_callC (pc := 12) dL_law_12 lk_L_12 rfl (by decide) (by decide) rfl ct_X7 (hcap _ _ (by decide +kernel) (by decide +kernel)) (by decide +kernel) ⟨by decide +kernel, by decide +kernel⟩ ?_
  refine z_astore_n (pc := 15) (lv' := [(2, .ref 52), (1, .ref 0), (0, .ref 1200)]) dL_law_15 (Nat.le_of_ble_eq_true rfl) rfl ?_
  refine z_iconst (pc := 16) (v := 0) dL_law_16 ic_0 ?_
  refine z_istore_n (pc := 17) (lv' := [(3, .int 0), (2, .ref 52), (1, .ref 0), (0, .ref 1200)]) dL_law_17 (Nat.le_of_ble_eq_true rfl) rfl ?_
  refine Z_congr (S' := zC zf0) (by decide +kernel) (by decide +kernel) tX7_ws ?_
  refine z_sub [3, 2, 1, 0] rfl (law_loop hI hX hW hL (L + 1) 0 zf0 (by omega) (by omega) h0)
theorem whole_start0 {Inv : zF → Prop} (hI : zPairs Inv) (h0 : Inv zf0) {p : Program} {e : Env} {s : State} {m : MethodId} {below : List Frame} {meth : Method} {c : Code} (l : Launch) {b L : Nat} {xs : Nat → Int32} (hL : L ≤ 3072) (C0 : lw_At p s m meth c b L xs) : W p l e room_1 s m #[Value.ref b] below meth c s.heap [] 0 0 (lw_Z below #[Value.ref b] s) (entryFrame m ([Value.ref b] : List Value).toArray 4) := by
  obtain ⟨hx, hb, hr, hml, hown, hts, hX, hbl, hlocks, hgv⟩ := id C0
  obtain ⟨E, hE1, hE2, hK, hKh⟩ := zStart (b := b) hts hgv
  have key := law_begin hI h0 (X := (p, l, e, room_1, s, m, #[Value.ref b], below, meth, c, E, 0, 0, lw_Z below #[Value.ref b] s)) (L := L) (xs := xs) (b := b) ⟨by rw [hE2]; exact hX, by rw [hE2]; exact hbl, hE1⟩ ⟨rfl, rfl, rfl, rfl⟩ hL (fun a b ha hb => ⟨by show a ≤ 0 + 600000; omega, by show b ≤ 0 + 7302249; omega⟩)
  have hl := lv_entry ([.ref b]) (n := 4) (Nat.le_of_ble_eq_true rfl)
  rw [lg_entry_eq]
  generalize (lg_sl ([.ref b]) ++ List.replicate (4 - (lg_sl ([.ref b])).length) Slot.unset).toArray = ls at hl ⊢
  have e1 : zad E 1200 = b := by rw [← hE2]; simp [zad]
  have hl2 : lv_has ls 4 (([(0, .ref 1200)] : List (Nat × Value)).map (fun q => (q.1, zv E q.2))) := by
    show lv_has ls 4 [(0, .ref (zad E 1200))]
    rw [e1]
    exact hl
  exact key ⟨hx, hb, hml, hown, fun w hw => hts w (zWs_good hw).1, hr, hlocks, fun h => absurd h (by decide), by show 11 ≤ 13; decide, by show 28 * 11 ≤ 466; decide, hK, hKh, by rw [hE1]; rfl⟩ ⟨Nat.le_refl _, Nat.le_refl _, Nat.zero_le _, Nat.zero_le _, by decide⟩ s.heap [] ls (fun k q h => by simp [zws, zS00] at h) va_S.rf hl2
