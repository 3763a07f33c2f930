/-! A TOWN as numbers: A 0 j the scalars (ROOMS, fades, DOORS, PEOPLE, ties, day), A 1, A 2 the sides of DOORS, A 3 .. A 8 kind, room, bent, gifts, kin, feuds of PEOPLE, A 9, A 10 times and last by 6 p + d -/
abbrev Tn : Type := Nat → Nat → Int32
def na (A : Tn) (f i : Nat) : Nat := Int32.toNatClampNeg (A f i)
def nr (A : Tn) : Nat := na A 0 0
def nd (A : Tn) : Nat := na A 0 2
def np (A : Tn) : Nat := na A 0 3
def rel (A : Tn) (f i : Nat) : Prop := (1 ≤ f ∧ f ≤ 2 ∧ i < nd A) ∨ (3 ≤ f ∧ f ≤ 8 ∧ i < np A) ∨ ((f = 9 ∨ f = 10) ∧ ∃ p d : Nat, p < np A ∧ d < nd A ∧ i = 6 * p + d)
theorem rel_d {A : Tn} {f i : Nat} (h1 : 1 ≤ f) (h2 : f ≤ 2) (h : i < nd A) : rel A f i := Or.inl ⟨h1, h2, h⟩
theorem rel_p {A : Tn} {f i : Nat} (h1 : 3 ≤ f) (h2 : f ≤ 8) (h : i < np A) : rel A f i := Or.inr (Or.inl ⟨h1, h2, h⟩)
theorem rel_9 {A : Tn} {p d : Nat} (hp : p < np A) (hd : d < nd A) : rel A 9 (6 * p + d) := Or.inr (Or.inr ⟨Or.inl rfl, p, d, hp, hd, rfl⟩)
theorem rel_10 {A : Tn} {p d : Nat} (hp : p < np A) (hd : d < nd A) : rel A 10 (6 * p + d) := Or.inr (Or.inr ⟨Or.inr rfl, p, d, hp, hd, rfl⟩)
/-- the class's TOWN at cell T is A -/
def RC (M : Mem) (T : Nat) (A : Tn) : Prop := (∀ j, j < 6 → M T j = A 0 j) ∧ ∀ f i, rel A f i → M (T + f) i = A f i
/-- where the reference keeps it -/
def mo (f i : Nat) : Nat := if f = 0 then (if i = 4 then 5 else if i = 5 then 4 else i) else if f = 1 then 6 + 2 * i else if f = 2 then 7 + 2 * i else if f < 9 then 6 * f + i else if f = 9 then 54 + i else 90 + i
def RM (M : Mem) (B : Nat) (A : Tn) : Prop := (∀ j, j < 6 → M 86 (B + mo 0 j) = A 0 j) ∧ (∀ f i, rel A f i → M 86 (B + mo f i) = A f i) ∧ ∀ p d, p < 6 → d < 6 → ¬ (p < np A ∧ d < nd A) → M 86 (B + 54 + 6 * p + d) = 0 ∧ (0 < np A → M 86 (B + 90 + 6 * p + d) = -1000000)
/-- A is a TOWN, or none yet -/
def V (A : Tn) : Prop := (A 0 0 = nI (nr A) ∧ nr A ≤ 6 ∧ A 0 1 = nI (na A 0 1) ∧ na A 0 1 ≤ 9 ∧ A 0 2 = nI (nd A) ∧ nd A ≤ 6 ∧ A 0 3 = nI (np A) ∧ np A ≤ 6 ∧ A 0 4 = nI (na A 0 4) ∧ na A 0 4 ≤ 8 ∧ A 0 5 = nI (na A 0 5) ∧ na A 0 5 ≤ 2000 ∧ (0 < np A ↔ 0 < nd A) ∧ (0 < nr A → 0 < np A)) ∧
  (∀ d, d < nd A → A 1 d = nI (na A 1 d) ∧ A 2 d = nI (na A 2 d) ∧ na A 1 d < nr A ∧ na A 2 d < nr A ∧ na A 1 d ≠ na A 2 d) ∧
  (∀ p, p < np A → A 3 p = nI (na A 3 p) ∧ 1 ≤ na A 3 p ∧ na A 3 p ≤ 5 ∧ A 4 p = nI (na A 4 p) ∧ na A 4 p < nr A ∧ A 5 p = nI (na A 5 p) ∧ na A 5 p ≤ 6 ∧ -9 ≤ (A 6 p).toInt ∧ (A 6 p).toInt ≤ 9 ∧ A 7 p = nI (na A 7 p) ∧ na A 7 p < 64 ∧ A 8 p = nI (na A 8 p) ∧ na A 8 p < 64) ∧
  ∀ p d, p < np A → d < nd A → A 9 (6 * p + d) = nI (na A 9 (6 * p + d)) ∧ na A 9 (6 * p + d) ≤ 99
theorem V_np {A : Tn} (h : V A) : A 0 3 = nI (np A) ∧ np A ≤ 6 := ⟨h.1.2.2.2.2.2.2.1, h.1.2.2.2.2.2.2.2.1⟩
theorem V_nd {A : Tn} (h : V A) : A 0 2 = nI (nd A) ∧ nd A ≤ 6 := ⟨h.1.2.2.2.2.1, h.1.2.2.2.2.2.1⟩
theorem V_nr {A : Tn} (h : V A) : A 0 0 = nI (nr A) ∧ nr A ≤ 6 := ⟨h.1.1, h.1.2.1⟩
theorem V_9 {A : Tn} (h : V A) {p d : Nat} (hp : p < np A) (hd : d < nd A) : A 9 (6 * p + d) = nI (na A 9 (6 * p + d)) ∧ na A 9 (6 * p + d) ≤ 99 := h.2.2.2 p d hp hd
theorem nI2 (t : Nat) (h : t < 2 ^ 31) : nI t / 2 = nI (t / 2) := pk_div (d := 2) h (by decide) (by decide)
theorem nI3 (t : Nat) (h : t < 2 ^ 31) : nI t - nI t / 3 * 3 = nI (t % 3) := pk_rem (d := 3) h (by decide) (by decide)
theorem cel (p d : Nat) : nI p * 6 + nI d = nI (6 * p + d) := by
  rw [show (6 : Int32) = nI 6 from rfl, pk_mul, nI_add, Nat.mul_comm]
theorem nI_z {t : Nat} (h : t < 2 ^ 31) : (nI t = 0) ↔ t = 0 := nI_eq (b := 0) h (by decide)
/-- FRESH TIMES -/
def frs (A : Tn) (c : Nat) : Prop := A 0 1 = 0 ∨ A 0 5 - A 10 c ≤ A 0 1
noncomputable def fr (A : Tn) (c : Nat) : Nat := @ite Nat (frs A c) (Classical.propDecidable _) (na A 9 c) (na A 9 c / 2)
theorem fr_t {A : Tn} {c : Nat} (h : frs A c) : fr A c = na A 9 c := by
  unfold fr
  exact @if_pos _ (Classical.propDecidable _) h Nat _ _
theorem fr_f {A : Tn} {c : Nat} (h : ¬ frs A c) : fr A c = na A 9 c / 2 := by
  unfold fr
  exact @if_neg _ (Classical.propDecidable _) h Nat _ _
theorem fr_le (A : Tn) (c : Nat) : fr A c ≤ na A 9 c := by
  by_cases h : frs A c
  · rw [fr_t h]; exact Nat.le_refl _
  · rw [fr_f h]; omega
/-- the WEIGHT of p at d -/
noncomputable def wt (A : Tn) (p d : Nat) : Nat := if na A 3 p = 2 then fr A (6 * p + d) + (if d = 0 then 9 else 0) else if na A 3 p = 3 then (if na A 9 (6 * p + d) % 3 = 0 then 0 else fr A (6 * p + d)) else if na A 3 p = 4 then (if na A 9 (6 * p + d) = 0 then 0 else 1) else if na A 3 p = 5 then (if na A 9 (6 * p + d) = 0 then 0 else 2) else fr A (6 * p + d)
theorem wt_le {A : Tn} (h : V A) {p d : Nat} (hp : p < np A) (hd : d < nd A) : wt A p d ≤ 108 := by
  have h1 := (V_9 h hp hd).2
  have h2 := fr_le A (6 * p + d)
  unfold wt
  split
  · split <;> omega
  · split
    · split <;> omega
    · split
      · split <;> omega
      · split
        · split <;> omega
        · omega
section TW
variable {M : Mem} {T B : Nat} {A : Tn} {p d : Nat} {Q : Int32 → Mem → Prop}
theorem W6_fresh (hA : RC M T A) (hV : V A) (hp : p < np A) (hd : d < nd A) (q : Q (nI (fr A (6 * p + d))) M) : w_X6_freshIn T M (nI (6 * p + d)) Q := by
  have hn := (V_np hV).2
  have hm := (V_nd hV).2
  have t9 := V_9 hV hp hd
  have e1 : M T 1 = A 0 1 := hA.1 1 (by decide)
  have e5 : M T 5 = A 0 5 := hA.1 5 (by decide)
  have e9 : M (T + 9) (6 * p + d) = A 9 (6 * p + d) := hA.2 9 _ (rel_9 hp hd)
  have e10 : M (T + 10) (6 * p + d) = A 10 (6 * p + d) := hA.2 10 _ (rel_10 hp hd)
  have hin : vp_in (nI (6 * p + d)) 36 := vp_in_nI (by omega) (by decide)
  simp only [w_X6_freshIn, wJ_X6_freshIn_25, wJ_X6_freshIn_30, ix_nat (show 6 * p + d < 2 ^ 31 by omega), e1, e5, e9, e10, i10, not_true_eq_false, not_false_eq_true, false_implies, true_implies, and_true, true_and]
  refine ⟨fun z => ⟨hin, ?_⟩, fun z => ⟨hin, fun z2 => ⟨hin, ?_⟩, fun z2 => ⟨hin, ?_⟩⟩⟩
  · rw [fr_t (Or.inl z)] at q
    rw [t9.1]; exact q
  · rw [fr_f (fun e => e.elim z (fun e => absurd z2 (Int32.not_lt.mpr e)))] at q
    rw [t9.1, nI2 _ (by omega)]; exact q
  · rw [fr_t (Or.inr (Int32.not_lt.mp z2))] at q
    rw [t9.1]; exact q
theorem W6_weight (hA : RC M T A) (hV : V A) (hp : p < np A) (hd : d < nd A) (q : Q (nI (wt A p d)) M) : w_X6_weightOf T M (nI p) (nI d) Q := by
  have hn := (V_np hV).2
  have hm := (V_nd hV).2
  have t9 := V_9 hV hp hd
  have e9 : M (T + 9) (6 * p + d) = A 9 (6 * p + d) := hA.2 9 _ (rel_9 hp hd)
  have e3 : M (T + 3) p = A 3 p := hA.2 3 _ (rel_p (by decide) (by decide) hp)
  obtain ⟨k3, k3a, k3b, -⟩ := hV.2.2.1 p hp
  have hin : vp_in (nI (6 * p + d)) 36 := vp_in_nI (by omega) (by decide)
  simp only [w_X6_weightOf, w_X6_cellOf, cel, ix_nat (show p < 2 ^ 31 by omega), ix_nat (show 6 * p + d < 2 ^ 31 by omega), e3, e9, k3, t9.1, nI3 _ (show na A 9 (6 * p + d) < 2 ^ 31 by omega), forall_eq]
  refine ⟨vp_in_nI (by omega) (by decide), ?_⟩
  unfold wt at q
  refine ⟨fun z => ?_, fun z => ⟨hin, ?_⟩, fun z => ⟨hin, ?_⟩, fun z => ⟨hin, ?_⟩, fun z2 z3 z4 z5 => ?_⟩
  · have z := nI_inj (b := 2) (by omega) (by decide) z
    rw [if_pos z] at q
    refine W6_fresh hA hV hp hd ⟨fun y => ?_, fun y => ?_⟩
    · rw [nI_z (by omega)] at y
      rw [if_neg y] at q
      rw [show (0 : Int32) = nI 0 from rfl, nI_add]; exact q
    · rw [nI_z (by omega)] at y
      rw [if_pos y] at q
      rw [show (9 : Int32) = nI 9 from rfl, nI_add]; exact q
  · have z := nI_inj (b := 3) (by omega) (by decide) z
    rw [if_neg (by omega), if_pos z] at q
    rw [nI_z (by omega)]
    refine ⟨fun y => W6_fresh hA hV hp hd ?_, fun y => ?_⟩
    · rw [if_neg y] at q; exact q
    · rw [if_pos y] at q; exact q
  · have z := nI_inj (b := 4) (by omega) (by decide) z
    rw [if_neg (by omega), if_neg (by omega), if_pos z] at q
    rw [nI_z (by omega)]
    refine ⟨fun y => ?_, fun y => ?_⟩
    · rw [if_neg y] at q; exact q
    · rw [if_pos y] at q; exact q
  · have z := nI_inj (b := 5) (by omega) (by decide) z
    rw [if_neg (by omega), if_neg (by omega), if_neg (by omega), if_pos z] at q
    rw [nI_z (by omega)]
    refine ⟨fun y => ?_, fun y => ?_⟩
    · rw [if_neg y] at q; exact q
    · rw [if_pos y] at q; exact q
  · have y2 : na A 3 p ≠ 2 := fun e => z2 (by rw [e]; rfl)
    have y3 : na A 3 p ≠ 3 := fun e => z3 (by rw [e]; rfl)
    have y4 : na A 3 p ≠ 4 := fun e => z4 (by rw [e]; rfl)
    have y5 : na A 3 p ≠ 5 := fun e => z5 (by rw [e]; rfl)
    rw [if_neg y2, if_neg y3, if_neg y4, if_neg y5] at q
    exact W6_fresh hA hV hp hd q
theorem lin54 (b p d : Nat) : nI b + 54 + 6 * nI p + nI d = nI (b + 54 + 6 * p + d) := by
  rw [show (6 : Int32) = nI 6 from rfl, show (54 : Int32) = nI 54 from rfl, pk_mul, nI_add, nI_add, nI_add]
theorem lin90 (b p d : Nat) : nI b + 90 + 6 * nI p + nI d = nI (b + 90 + 6 * p + d) := by
  rw [show (6 : Int32) = nI 6 from rfl, show (90 : Int32) = nI 90 from rfl, pk_mul, nI_add, nI_add, nI_add]
theorem linc (b : Nat) (c : Nat) : nI b + nI c = nI (b + c) := nI_add b c
theorem RM_s (h : RM M B A) (j : Nat) (hj : j < 6) : M 86 (B + mo 0 j) = A 0 j := h.1 j hj
theorem RM_9 (h : RM M B A) (hp : p < np A) (hd : d < nd A) : M 86 (B + 54 + 6 * p + d) = A 9 (6 * p + d) := by
  have := h.2.1 9 _ (rel_9 hp hd)
  rw [← this]; congr 1; show _ = B + (54 + (6 * p + d)); omega
theorem RM_10 (h : RM M B A) (hp : p < np A) (hd : d < nd A) : M 86 (B + 90 + 6 * p + d) = A 10 (6 * p + d) := by
  have := h.2.1 10 _ (rel_10 hp hd)
  rw [← this]; congr 1; show _ = B + (90 + (6 * p + d)); omega
theorem RM_p (h : RM M B A) {f : Nat} (hp : p < np A) (h1 : 3 ≤ f) (h2 : f ≤ 8) : M 86 (B + 6 * f + p) = A f p := by
  have := h.2.1 f _ (rel_p h1 h2 hp)
  rw [← this]; congr 1
  unfold mo
  rw [if_neg (by omega), if_neg (by omega), if_neg (by omega), if_pos (by omega)]; omega
theorem W9_times (hB : B ≤ 3402) (hp : p < 6) (hd : d < 6) (q : Q (M 86 (B + 54 + 6 * p + d)) M) : w_X9_timesOf M (nI B) (nI p) (nI d) Q := by
  unfold w_X9_timesOf
  rw [lin54]
  intro v1 e1
  rw [e1, ix_nat (by omega)]
  exact ⟨vp_in_nI (by omega) (by decide), q⟩
theorem W9_fresh (hA : RM M B A) (hB : B ≤ 3402) (hV : V A) (hp : p < np A) (hd : d < nd A) (q : Q (nI (fr A (6 * p + d))) M) : w_X9_freshOf M (nI B) (nI p) (nI d) Q := by
  have hn := (V_np hV).2
  have hm := (V_nd hV).2
  have t9 := V_9 hV hp hd
  have e1 : M 86 (B + 1) = A 0 1 := hA.1 1 (by decide)
  have e5 : M 86 (B + 4) = A 0 5 := hA.1 5 (by decide)
  have e10 := RM_10 hA hp hd
  unfold w_X9_freshOf
  refine W9_times hB (by omega) (by omega) ?_
  rw [RM_9 hA hp hd, t9.1]
  simp only [wJ_X9_freshOf_61, wJ_X9_freshOf_66, forall_eq, lin90, show nI B + 1 = nI (B + 1) from nI_1 B, show nI B + 4 = nI (B + 4) from nI_add B 4, ix_nat (show B + 1 < 2 ^ 31 by omega), ix_nat (show B + 4 < 2 ^ 31 by omega), ix_nat (show B + 90 + 6 * p + d < 2 ^ 31 by omega), e1, e5, e10, i10, not_true_eq_false, not_false_eq_true, false_implies, true_implies, and_true, true_and]
  have i1 : vp_in (nI (B + 1)) 3528 := vp_in_nI (by omega) (by decide)
  have i4 : vp_in (nI (B + 4)) 3528 := vp_in_nI (by omega) (by decide)
  have i9 : vp_in (nI (B + 90 + 6 * p + d)) 3528 := vp_in_nI (by omega) (by decide)
  refine ⟨fun z => ?_, fun z => ⟨i1, fun z1 => ?_, fun z1 => ⟨i4, i9, i1, fun z2 => ?_, fun z2 => ?_⟩⟩⟩
  · rw [nI_z (by omega)] at z
    have e0 : fr A (6 * p + d) = na A 9 (6 * p + d) := by have := fr_le A (6 * p + d); omega
    rw [e0] at q; exact q
  · rw [fr_t (Or.inl z1)] at q; exact q
  · rw [fr_f (fun e => e.elim z1 (fun e => absurd z2 (Int32.not_lt.mpr e)))] at q
    rw [nI2 _ (by omega)]; exact q
  · rw [fr_t (Or.inr (Int32.not_lt.mp z2))] at q; exact q
theorem nI_le0 {t : Nat} (h : t < 2 ^ 31) : (nI t ≤ 0) ↔ t = 0 := by
  rw [show (0 : Int32) = nI 0 from rfl, nI_leI h (by decide)]; omega
theorem W9_weight (hA : RM M B A) (hB : B ≤ 3402) (hV : V A) (hp : p < np A) (hd : d < nd A) (q : Q (nI (wt A p d)) M) : w_X9_weightOf M (nI B) (nI p) (nI d) Q := by
  have hn := (V_np hV).2
  have hm := (V_nd hV).2
  have t9 := V_9 hV hp hd
  have e3 : M 86 (B + 18 + p) = A 3 p := RM_p hA hp (f := 3) (by decide) (by decide)
  obtain ⟨k3, k3a, k3b, -⟩ := hV.2.2.1 p hp
  unfold w_X9_weightOf
  refine W9_times hB (by omega) (by omega) ?_
  rw [RM_9 hA hp hd, t9.1]
  simp only [forall_eq, show nI B + 18 + nI p = nI (B + 18 + p) from by rw [show (18 : Int32) = nI 18 from rfl, nI_add, nI_add], ix_nat (show B + 18 + p < 2 ^ 31 by omega), e3, k3, nI3 _ (show na A 9 (6 * p + d) < 2 ^ 31 by omega)]
  refine ⟨vp_in_nI (by omega) (by decide), ?_⟩
  unfold wt at q
  refine ⟨fun z => ?_, fun z => ?_, fun z => ?_, fun z => ?_, fun z2 z3 z4 z5 => ?_⟩
  · have z := nI_inj (b := 2) (by omega) (by decide) z
    rw [if_pos z] at q
    refine W9_fresh hA hB hV hp hd ⟨fun y => ?_, fun y => ?_⟩
    · rw [nI_z (by omega)] at y
      rw [if_neg y] at q
      rw [show (0 : Int32) = nI 0 from rfl, nI_add]; exact q
    · rw [nI_z (by omega)] at y
      rw [if_pos y] at q
      rw [show (9 : Int32) = nI 9 from rfl, nI_add]; exact q
  · have z := nI_inj (b := 3) (by omega) (by decide) z
    rw [if_neg (by omega), if_pos z] at q
    rw [nI_z (by omega)]
    refine ⟨fun y => W9_fresh hA hB hV hp hd ?_, fun y => ?_⟩
    · rw [if_neg y] at q; exact q
    · rw [if_pos y] at q; exact q
  · have z := nI_inj (b := 4) (by omega) (by decide) z
    rw [if_neg (by omega), if_neg (by omega), if_pos z] at q
    rw [nI_le0 (by omega)]
    refine ⟨fun y => ?_, fun y => ?_⟩
    · rw [if_pos y] at q; exact q
    · rw [if_neg y] at q; exact q
  · have z := nI_inj (b := 5) (by omega) (by decide) z
    rw [if_neg (by omega), if_neg (by omega), if_neg (by omega), if_pos z] at q
    rw [nI_le0 (by omega)]
    refine ⟨fun y => ?_, fun y => ?_⟩
    · rw [if_pos y] at q; exact q
    · rw [if_neg y] at q; exact q
  · have y2 : na A 3 p ≠ 2 := fun e => z2 (by rw [e]; rfl)
    have y3 : na A 3 p ≠ 3 := fun e => z3 (by rw [e]; rfl)
    have y4 : na A 3 p ≠ 4 := fun e => z4 (by rw [e]; rfl)
    have y5 : na A 3 p ≠ 5 := fun e => z5 (by rw [e]; rfl)
    rw [if_neg y2, if_neg y3, if_neg y4, if_neg y5] at q
    exact W9_fresh hA hB hV hp hd q
end TW
