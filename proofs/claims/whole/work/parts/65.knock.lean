def atD (A : Tn) (p d : Nat) : Prop := A 1 d = A 4 p ∨ A 2 d = A 4 p
def tnx (A : Tn) (c : Nat) : Nat := if 99 < na A 9 c + 1 then 99 else na A 9 c + 1
/-- the TOWN behind p's going through d -/
def passA (A : Tn) (p d : Nat) : Tn := ms (ms (ms A 4 p (crs A p d)) 9 (6 * p + d) (nI (tnx A (6 * p + d)))) 10 (6 * p + d) (A 0 5)
def bh (A : Tn) (d : Nat) (r : Int32) : Int32 := if A 1 d = r then A 2 d else if A 2 d = r then A 1 d else -1000000
theorem bh_at {A : Tn} {p d : Nat} (h : atD A p d) : bh A d (A 4 p) = crs A p d := by
  unfold bh crs
  by_cases e : A 1 d = A 4 p
  · rw [if_pos e, if_pos e.symm]
  · rw [if_neg e, if_pos (h.resolve_left e), if_neg (fun z => e z.symm)]
theorem nI_none {t : Nat} (h : t < 2 ^ 31) : ¬ nI t = -1000000 := by
  intro e
  have h1 := congrArg Int32.toInt e
  rw [nI_toInt h, show (-1000000 : Int32).toInt = -1000000 from by decide] at h1
  omega
theorem bh_none {A : Tn} {p d : Nat} (hV : V A) (hd : d < nd A) : (bh A d (A 4 p) = -1000000) ↔ ¬ atD A p d := by
  obtain ⟨a1, a2, a3, a4, -⟩ := hV.2.1 d hd
  have hr := (V_nr hV).2
  unfold bh atD
  constructor
  · intro e h
    by_cases e1 : A 1 d = A 4 p
    · rw [if_pos e1, a2] at e; exact nI_none (by omega) e
    · rw [if_neg e1, if_pos (h.resolve_left e1), a1] at e; exact nI_none (by omega) e
  · intro h
    rw [if_neg (fun e => h (Or.inl e)), if_neg (fun e => h (Or.inr e))]
theorem crs_nat {A : Tn} {p d : Nat} (hV : V A) (hd : d < nd A) : ∃ r : Nat, r < nr A ∧ crs A p d = nI r := by
  obtain ⟨a1, a2, a3, a4, -⟩ := hV.2.1 d hd
  unfold crs
  split
  · exact ⟨_, a4, a2⟩
  · exact ⟨_, a3, a1⟩
theorem pass_sc (A : Tn) (p d j : Nat) : passA A p d 0 j = A 0 j := by
  unfold passA
  rw [ms_ne (by decide), ms_ne (by decide), ms_ne (by decide)]
theorem pass_n (A : Tn) (p d : Nat) : nd (passA A p d) = nd A ∧ np (passA A p d) = np A ∧ nr (passA A p d) = nr A := by
  unfold nd np nr na
  rw [pass_sc, pass_sc, pass_sc]
  exact ⟨rfl, rfl, rfl⟩
theorem V_pass {A : Tn} {p d : Nat} (hV : V A) (hp : p < np A) (hd : d < nd A) : V (passA A p d) := by
  have hn := (V_np hV).2
  have hm := (V_nd hV).2
  have hr6 := (V_nr hV).2
  obtain ⟨r, hr, er⟩ := crs_nat (p := p) hV hd
  obtain ⟨n1, n2, n0⟩ := pass_n A p d
  have tl : tnx A (6 * p + d) ≤ 99 := by unfold tnx; split <;> omega
  obtain ⟨h0, hdd, hpp, h9⟩ := hV
  have ne0 : ∀ j, na (passA A p d) 0 j = na A 0 j := fun j => by unfold na; rw [pass_sc]
  have eo : ∀ f i, f ≠ 4 → f ≠ 9 → f ≠ 10 → passA A p d f i = A f i := fun f i h1 h2 h3 => by
    unfold passA
    rw [ms_ne h3, ms_ne h2, ms_ne h1]
  have en : ∀ f i, f ≠ 4 → f ≠ 9 → f ≠ 10 → na (passA A p d) f i = na A f i := fun f i h1 h2 h3 => by unfold na; rw [eo f i h1 h2 h3]
  unfold V
  rw [n0, n1, n2, ne0, ne0, ne0, pass_sc, pass_sc, pass_sc, pass_sc, pass_sc, pass_sc]
  refine ⟨h0, fun d' hd' => ?_, fun q hq => ?_, fun q d' hq hd' => ?_⟩
  · rw [en 1 d' (by decide) (by decide) (by decide), en 2 d' (by decide) (by decide) (by decide), eo 1 d' (by decide) (by decide) (by decide), eo 2 d' (by decide) (by decide) (by decide)]
    exact hdd d' hd'
  · rw [en 3 q (by decide) (by decide) (by decide), en 5 q (by decide) (by decide) (by decide), en 7 q (by decide) (by decide) (by decide), en 8 q (by decide) (by decide) (by decide), eo 3 q (by decide) (by decide) (by decide), eo 5 q (by decide) (by decide) (by decide), eo 6 q (by decide) (by decide) (by decide), eo 7 q (by decide) (by decide) (by decide), eo 8 q (by decide) (by decide) (by decide)]
    obtain ⟨b1, b2, b3, b4, b5, b6⟩ := hpp q hq
    have e4 : passA A p d 4 q = if q = p then nI r else A 4 q := by
      unfold passA
      rw [ms_ne (by decide), ms_ne (by decide), ms_app, er]
      by_cases e : q = p
      · rw [if_pos ⟨rfl, e⟩, if_pos e]
      · rw [if_neg (fun z => e z.2), if_neg e]
    have n4 : na (passA A p d) 4 q = if q = p then r else na A 4 q := by
      unfold na
      rw [e4]
      by_cases e : q = p
      · rw [if_pos e, if_pos e, ix_nat (by omega)]
      · rw [if_neg e, if_neg e]
    rw [e4, n4]
    refine ⟨b1, b2, b3, ?_, ?_, b6⟩
    · by_cases e : q = p
      · rw [if_pos e, if_pos e]
      · rw [if_neg e, if_neg e]; exact b4
    · by_cases e : q = p
      · rw [if_pos e]; exact hr
      · rw [if_neg e]; exact b5
  · have e9 : passA A p d 9 (6 * q + d') = if 6 * q + d' = 6 * p + d then nI (tnx A (6 * p + d)) else A 9 (6 * q + d') := by
      unfold passA
      rw [ms_ne (by decide), ms_app]
      by_cases e : 6 * q + d' = 6 * p + d
      · rw [if_pos ⟨rfl, e⟩, if_pos e]
      · rw [if_neg (fun z => e z.2), if_neg e, ms_ne (by decide)]
    have n9 : na (passA A p d) 9 (6 * q + d') = if 6 * q + d' = 6 * p + d then tnx A (6 * p + d) else na A 9 (6 * q + d') := by
      unfold na
      rw [e9]
      by_cases e : 6 * q + d' = 6 * p + d
      · rw [if_pos e, if_pos e, ix_nat (by omega)]
      · rw [if_neg e, if_neg e]
    rw [e9, n9]
    by_cases e : 6 * q + d' = 6 * p + d
    · rw [if_pos e, if_pos e]; exact ⟨rfl, tl⟩
    · rw [if_neg e, if_neg e]; exact h9 q d' hq hd'
section KN
variable {M : Mem} {T B : Nat} {A : Tn} {p d : Nat}
theorem W6_atD {Q : Int32 → Mem → Prop} (hA : RC M T A) (hV : V A) (hp : p < np A) (hd : d < nd A) (q : Q (bI (atD A p d)) M) : w_X6_isAtDoor T M (nI p) (nI d) Q := by
  have hn := (V_np hV).2
  have hm := (V_nd hV).2
  have e1 : M (T + 1) d = A 1 d := hA.2 1 _ (rel_d (by decide) (by decide) hd)
  have e2 : M (T + 2) d = A 2 d := hA.2 2 _ (rel_d (by decide) (by decide) hd)
  have e4 : M (T + 4) p = A 4 p := hA.2 4 _ (rel_p (by decide) (by decide) hp)
  have ip : vp_in (nI p) 6 := vp_in_nI (by omega) (by decide)
  have id' : vp_in (nI d) 6 := vp_in_nI (by omega) (by decide)
  unfold w_X6_isAtDoor
  rw [ix_nat (by omega), ix_nat (by omega), e1, e2, e4]
  unfold atD at q
  refine ⟨id', ip, fun z => ?_, fun z => ⟨id', ip, fun z2 => ?_, fun z2 => ?_⟩⟩
  · rw [bI_t (Or.inl z)] at q; exact q
  · rw [bI_f (fun e => e.elim z z2)] at q; exact q
  · rw [bI_t (Or.inr z2)] at q; exact q
theorem min99 {t : Nat} (h : t ≤ 99) : (if (99 : Int32) < nI t + 1 then 99 else nI t + 1) = nI (if 99 < t + 1 then 99 else t + 1) := by
  rw [nI_1]
  by_cases e : 99 < t + 1
  · rw [if_pos e, if_pos (show (99 : Int32) < nI (t + 1) from nI_lt (a := 99) e (by omega))]; rfl
  · rw [if_neg e, if_neg (show ¬ (99 : Int32) < nI (t + 1) from nI_nlt (a := 99) (by omega) (by decide))]
theorem W6_mark {Q : Mem → Prop} (hA : RC M T A) (hV : V A) (hp : p < np A) (hd : d < nd A) (q : Q (ms (ms M (T + 9) (6 * p + d) (nI (tnx A (6 * p + d)))) (T + 10) (6 * p + d) (A 0 5))) : w_X6_mark T M (nI p) (nI d) Q := by
  have hn := (V_np hV).2
  have hm := (V_nd hV).2
  have t9 := V_9 hV hp hd
  have e9 : M (T + 9) (6 * p + d) = nI (na A 9 (6 * p + d)) := (hA.2 9 _ (rel_9 hp hd)).trans t9.1
  have e5 : M T 5 = A 0 5 := hA.1 5 (by decide)
  have hin : vp_in (nI (6 * p + d)) 36 := vp_in_nI (by omega) (by decide)
  unfold w_X6_mark w_X6_cellOf
  rw [cel]
  show _ ∧ _
  rw [ix_nat (by omega), e9, min99 t9.2]
  refine ⟨hin, fun v4 e4 => ⟨hin, fun M6 e6 v7 e7 => ⟨hin, fun M9 e9' => ?_⟩⟩⟩
  rw [e9', e7, e6, ms_ne (by omega), e5, e4]
  exact q
theorem W6_cross {Q : Mem → Prop} (hA : RC M T A) (hV : V A) (hp : p < np A) (hd : d < nd A) (q : Q (ms M (T + 4) p (crs A p d))) : w_X6_cross T M (nI p) (nI d) Q := by
  have hn := (V_np hV).2
  have hm := (V_nd hV).2
  have e1 : M (T + 1) d = A 1 d := hA.2 1 _ (rel_d (by decide) (by decide) hd)
  have e2 : M (T + 2) d = A 2 d := hA.2 2 _ (rel_d (by decide) (by decide) hd)
  have e4 : M (T + 4) p = A 4 p := hA.2 4 _ (rel_p (by decide) (by decide) hp)
  have ip : vp_in (nI p) 6 := vp_in_nI (by omega) (by decide)
  have id' : vp_in (nI d) 6 := vp_in_nI (by omega) (by decide)
  unfold w_X6_cross
  rw [ix_nat (by omega), ix_nat (by omega), e1, e2, e4]
  unfold crs at q
  refine ⟨ip, id', fun z => ⟨id', fun v5 e5 => ⟨ip, fun M7 e7 => ?_⟩⟩, fun z => ⟨id', fun v5 e5 => ⟨ip, fun M7 e7 => ?_⟩⟩⟩
  · rw [if_neg z] at q
    rw [e7, e5]; exact q
  · rw [if_pos z] at q
    rw [e7, e5]; exact q
/-- p has gone through d in the class's TOWN -/
def psM (M : Mem) (T : Nat) (A : Tn) (p d : Nat) : Mem := ms (ms (ms M (T + 9) (6 * p + d) (nI (tnx A (6 * p + d)))) (T + 10) (6 * p + d) (A 0 5)) (T + 4) p (crs A p d)
theorem W6_pass {Q : Mem → Prop} (hA : RC M T A) (hV : V A) (hp : p < np A) (hd : d < nd A) (q : Q (psM M T A p d)) : w_X6_pass T M (nI p) (nI d) Q := by
  unfold w_X6_pass
  refine W6_mark hA hV hp hd ?_
  have e5 : A 0 5 = nI (na A 0 5) := hV.1.2.2.2.2.2.2.2.2.2.2.1
  -- crossing reads sides and room alone
  have hn := (V_np hV).2
  have hm := (V_nd hV).2
  have e1 : M (T + 1) d = A 1 d := hA.2 1 _ (rel_d (by decide) (by decide) hd)
  have e2 : M (T + 2) d = A 2 d := hA.2 2 _ (rel_d (by decide) (by decide) hd)
  have e4 : M (T + 4) p = A 4 p := hA.2 4 _ (rel_p (by decide) (by decide) hp)
  have ip : vp_in (nI p) 6 := vp_in_nI (by omega) (by decide)
  have id' : vp_in (nI d) 6 := vp_in_nI (by omega) (by decide)
  unfold w_X6_cross
  rw [ix_nat (by omega), ix_nat (by omega)]
  simp only [ms_ne (show T + 1 ≠ T + 9 by omega), ms_ne (show T + 1 ≠ T + 10 by omega), ms_ne (show T + 2 ≠ T + 9 by omega), ms_ne (show T + 2 ≠ T + 10 by omega), ms_ne (show T + 4 ≠ T + 9 by omega), ms_ne (show T + 4 ≠ T + 10 by omega), e1, e2, e4]
  unfold psM crs at q
  refine ⟨ip, id', fun z => ⟨id', fun v5 e5 => ⟨ip, fun M7 e7 => ?_⟩⟩, fun z => ⟨id', fun v5 e5 => ⟨ip, fun M7 e7 => ?_⟩⟩⟩
  · rw [if_neg z] at q
    rw [e7, e5]; exact q
  · rw [if_pos z] at q
    rw [e7, e5]; exact q
theorem cv_ps : cv (psM M T (cv M T) p d) T = passA (cv M T) p d := by
  unfold psM
  rw [cv_ms _ _ _ _ _ (by decide), cv_ms _ _ _ _ _ (by decide), cv_ms _ _ _ _ _ (by decide)]
  unfold passA
  funext f i
  simp only [ms_app]
  by_cases e4 : f = 4 ∧ i = p
  · rw [if_pos e4, if_neg (by omega), if_neg (by omega), if_pos e4]
  · rw [if_neg e4]
    by_cases e10 : f = 10 ∧ i = 6 * p + d
    · rw [if_pos e10, if_pos e10]
    · rw [if_neg e10, if_neg e10]
      by_cases e9 : f = 9 ∧ i = 6 * p + d
      · rw [if_pos e9, if_pos e9]
      · rw [if_neg e9, if_neg e9, if_neg e4]
theorem RC_ps (hA : RC M T A) (hV : V A) (hp : p < np A) (hd : d < nd A) : RC (psM M T A p d) T (passA A p d) := by
  have hn := (V_np hV).2
  have hm := (V_nd hV).2
  refine ⟨fun j hj => ?_, fun f i hr => ?_⟩
  · rw [pass_sc]
    unfold psM
    rw [ms_ne (by omega), ms_ne (by omega), ms_ne (by omega)]
    exact hA.1 j hj
  · have hr2 : rel A f i := (rel_sc (pass_sc A p d 2) (pass_sc A p d 3) f i).mp hr
    have hf := rel_f hr2
    unfold psM passA
    simp only [ms_app]
    rw [← hA.2 f i hr2]
    by_cases e4 : f = 4 ∧ i = p
    · rw [if_pos (by omega), if_neg (by omega), if_neg (by omega), if_pos e4]
    · rw [if_neg (by omega)]
      by_cases e10 : f = 10 ∧ i = 6 * p + d
      · rw [if_pos (by omega), if_pos e10]
      · rw [if_neg (by omega), if_neg e10]
        by_cases e9 : f = 9 ∧ i = 6 * p + d
        · rw [if_pos (by omega), if_pos e9]
        · rw [if_neg (by omega), if_neg e9, if_neg e4]
theorem W9_bh {Q : Int32 → Mem → Prop} {r : Int32} (hB : RM M B A) (hB2 : B ≤ 3402) (hV : V A) (hd : d < nd A) (q : Q (bh A d r) M) : w_X9_behind M (nI B) (nI d) r Q := by
  unfold w_X9_behind
  unfold bh at q
  refine W9_end (w := 0) hB hB2 hV hd (Or.inl rfl) ⟨fun z => ?_, fun z => ?_⟩
  · refine W9_end (w := 1) hB hB2 hV hd (Or.inr rfl) ⟨fun z2 => ?_, fun z2 => ?_⟩
    · rw [if_neg z, if_neg z2] at q; exact q
    · rw [if_neg z, if_pos z2] at q
      exact W9_end (w := 0) hB hB2 hV hd (Or.inl rfl) q
  · rw [if_pos z] at q
    exact W9_end (w := 1) hB hB2 hV hd (Or.inr rfl) q
/-- going through, in the reference -/
def ps9 (M : Mem) (B : Nat) (A : Tn) (p d : Nat) : Mem := ms (ms (ms M 86 (B + mo 4 p) (crs A p d)) 86 (B + mo 9 (6 * p + d)) (nI (tnx A (6 * p + d)))) 86 (B + mo 10 (6 * p + d)) (A 0 5)
theorem RM_ps (hB : RM M B A) (hV : V A) (hp : p < np A) (hd : d < nd A) : RM (ps9 M B A p d) B (passA A p d) := by
  have r4 := rel_p (A := A) (f := 4) (by decide) (by decide) hp
  unfold ps9 passA
  obtain ⟨r, hr, er⟩ := crs_nat (p := p) hV hd
  -- each single change, over the TOWN before it
  have h1 := RM_ms (v := crs A p d) hB hV (Or.inl r4)
  have key : ∀ (C : Tn) (M1 : Mem) (f i : Nat) (v : Int32), RM M1 B C → (∀ j, C 0 j = A 0 j) → (∀ g k, rel A g k → dom g k) → rel A f i → (∀ a b, dom a b → True) → RM (ms M1 86 (B + mo f i) v) B (ms C f i v) := by
    intro C M1 f i v hC hs hdm hr _
    have en1 : nd C = nd A := by unfold nd na; rw [hs 2]
    have en2 : np C = np A := by unfold np na; rw [hs 3]
    have hf := rel_f hr
    have hsc : ∀ j, ms C f i v 0 j = C 0 j := fun j => by rw [ms_app, if_neg (by omega)]
    have em1 : nd (ms C f i v) = nd A := by unfold nd na; rw [hsc]; unfold nd na at en1; exact en1
    have em2 : np (ms C f i v) = np A := by unfold np na; rw [hsc]; unfold np na at en2; exact en2
    refine ⟨fun j hj => ?_, fun g k hr2 => ?_, fun p' d' hp' hd' hn => ?_⟩
    · rw [hsc, ms_ne2]
      · exact hC.1 j hj
      · intro q
        have := mo_inj (f := 0) (i := j) (Or.inl ⟨by omega, hj⟩) (hdm f i hr) (by omega)
        omega
    · have hr3 : rel A g k := by unfold rel at hr2 ⊢; rw [em1, em2] at hr2; exact hr2
      have hr4 : rel C g k := by unfold rel at hr3 ⊢; rw [en1, en2]; exact hr3
      by_cases e : g = f ∧ k = i
      · rw [ms_app C, if_pos e, e.1, e.2, ms_eq]
      · rw [ms_app C, if_neg e, ms_ne2]
        · exact hC.2.1 g k hr4
        · intro q
          exact e (mo_inj (hdm g k hr3) (hdm f i hr) (by omega))
    · rw [em1, em2] at hn
      have h6 := (V_nd hV).2
      have k9 : B + 54 + 6 * p' + d' ≠ B + mo f i := by
        intro q
        obtain ⟨e1, e2⟩ := mo_inj (f := 9) (i := 6 * p' + d') (Or.inr ⟨Or.inl rfl, by omega⟩) (hdm f i hr) (by show 54 + (6 * p' + d') = mo f i; omega)
        rcases hr with z | z | ⟨z, p2, d2, y1, y2, y3⟩
        · omega
        · omega
        · exact hn ⟨by omega, by omega⟩
      have k10 : B + 90 + 6 * p' + d' ≠ B + mo f i := by
        intro q
        obtain ⟨e1, e2⟩ := mo_inj (f := 10) (i := 6 * p' + d') (Or.inr ⟨Or.inr rfl, by omega⟩) (hdm f i hr) (by show 90 + (6 * p' + d') = mo f i; omega)
        rcases hr with z | z | ⟨z, p2, d2, y1, y2, y3⟩
        · omega
        · omega
        · exact hn ⟨by omega, by omega⟩
      rw [ms_ne2 k9, ms_ne2 k10, em2, ← en2]
      exact hC.2.2 p' d' hp' hd' (by rw [en1, en2]; exact hn)
  have hdm : ∀ g k, rel A g k → dom g k := fun g k h => rel_dom hV h
  have h2 := key _ _ 9 (6 * p + d) (nI (tnx A (6 * p + d))) h1 (fun j => by rw [ms_ne (by decide)]) hdm (rel_9 hp hd) (fun _ _ _ => trivial)
  exact key _ _ 10 (6 * p + d) (A 0 5) h2 (fun j => by rw [ms_ne (by decide), ms_ne (by decide)]) hdm (rel_10 hp hd) (fun _ _ _ => trivial)
theorem W9_through {Q : Mem → Prop} {M0 : Mem} (hB : RM M0 B A) (hB2 : B ≤ 3402) (hV : V A) (hp : p < np A) (hd : d < nd A) (hM : M = ms M0 86 (B + mo 4 p) (crs A p d)) (q : Q (ps9 M0 B A p d)) : w_X9_goThrough M (nI B) (nI p) (nI d) Q := by
  have hn := (V_np hV).2
  have hm := (V_nd hV).2
  have t9 := V_9 hV hp hd
  have m4 : mo 4 p = 24 + p := rfl
  have m9 : mo 9 (6 * p + d) = 54 + (6 * p + d) := rfl
  have m10 : mo 10 (6 * p + d) = 90 + (6 * p + d) := rfl
  have e9 : M 86 (B + 54 + 6 * p + d) = nI (na A 9 (6 * p + d)) := by
    rw [hM, ms_ne2 (by omega), RM_9 hB hp hd, t9.1]
  have e5 : ∀ v, ms M 86 (B + 54 + 6 * p + d) v 86 (B + 4) = A 0 5 := fun v => by
    rw [ms_ne2 (by omega), hM, ms_ne2 (by omega)]
    exact hB.1 5 (by decide)
  have i9 : vp_in (nI (B + 54 + 6 * p + d)) 3528 := vp_in_nI (by omega) (by decide)
  have i10' : vp_in (nI (B + 90 + 6 * p + d)) 3528 := vp_in_nI (by omega) (by decide)
  have i4 : vp_in (nI (B + 4)) 3528 := vp_in_nI (by omega) (by decide)
  have fin : ∀ s3 : Int32, nI (na A 9 (6 * p + d)) + s3 = nI (tnx A (6 * p + d)) → wJ_X9_goThrough_38 Q M (nI B) (nI p) (nI d) (nI (B + 54 + 6 * p + d)) (nI (na A 9 (6 * p + d))) s3 := by
    intro s3 hs
    unfold wJ_X9_goThrough_38
    rw [hs, lin90, ix_nat (by omega), ix_nat (by omega), show nI B + 4 = nI (B + 4) from nI_add B 4]
    intro v1 e1
    refine ⟨i9, fun M3 e3 v4 e4 => ?_⟩
    rw [e4, ix_nat (by omega)]
    refine ⟨i4, fun v6 e6 => ⟨i10', fun M8 e8 => ?_⟩⟩
    rw [e3, e5] at e6
    unfold ps9 at q
    rw [e8, e6, e3, e1, hM]
    rw [m9, m10, show B + (54 + (6 * p + d)) = B + 54 + 6 * p + d by omega, show B + (90 + (6 * p + d)) = B + 90 + 6 * p + d by omega] at q
    exact q
  unfold w_X9_goThrough
  rw [lin54]
  intro v1 e1
  rw [e1, ix_nat (by omega), e9]
  refine ⟨i9, i9, fun z => fin 0 ?_, fun z => fin 1 ?_⟩
  · have := (nI_leI (a := 99) (by decide) (by omega)).mp z
    unfold tnx
    rw [if_pos (by omega), Int32.add_zero, show na A 9 (6 * p + d) = 99 by omega]
  · have : ¬ 99 ≤ na A 9 (6 * p + d) := fun e => z (nI_le (a := 99) e (by omega))
    unfold tnx
    rw [if_neg (by omega), nI_1]
theorem W9_knocks {Q : Int32 → Mem → Prop} (hB : RM M B A) (hB2 : B ≤ 3402) (hV : V A) (h0 : M 85 15 = 0) (hp : p < np A) (hd : d < nd A) (ha : atD A p d) (q1 : Op A p d allA → Q 1 (ps9 M B A p d)) (q0 : ¬ Op A p d allA → Q 0 M) : w_X9_knocks M (nI B) (nI p) (nI d) Q := by
  have hn := (V_np hV).2
  unfold w_X9_knocks
  refine W9_open0 hB hB2 hV h0 hp hd ?_
  rw [bI0, Classical.not_not]
  refine ⟨fun z => ?_, fun z => q0 z⟩
  have i4 : vp_in (nI (B + 24 + p)) 3528 := vp_in_nI (by omega) (by decide)
  rw [show nI B + 24 + nI p = nI (B + 24 + p) from lin3 B 24 p]
  intro v4 e4
  rw [e4, ix_nat (by omega)]
  have e24 : M 86 (B + 24 + p) = A 4 p := RM_p hB hp (f := 4) (by decide) (by decide)
  rw [e24]
  refine ⟨i4, W9_bh hB hB2 hV hd ⟨i4, fun M9 e9 => ?_⟩⟩
  rw [bh_at ha] at e9
  refine W9_through (M0 := M) hB hB2 hV hp hd ?_ (q1 z)
  rw [e9, show mo 4 p = 24 + p from rfl, show B + (24 + p) = B + 24 + p by omega]
end KN
