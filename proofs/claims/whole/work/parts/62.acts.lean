def dom (f i : Nat) : Prop := (f ≤ 8 ∧ i < 6) ∨ ((f = 9 ∨ f = 10) ∧ i < 36)
theorem mo_inj {f i g j : Nat} (h1 : dom f i) (h2 : dom g j) (e : mo f i = mo g j) : f = g ∧ i = j := by
  unfold dom at h1 h2
  unfold mo at e
  repeat (first | omega | split at e)
theorem rel_dom {A : Tn} (hV : V A) {f i : Nat} (hr : rel A f i) : dom f i := by
  have h1 := (V_np hV).2
  have h2 := (V_nd hV).2
  unfold dom
  rcases hr with z | z | ⟨z, p, d, h3, h4, h5⟩ <;> omega
/-- one number of the TOWN changes on both sides -/
theorem RM_ms {M : Mem} {B : Nat} {A : Tn} {f i : Nat} {v : Int32} (h : RM M B A) (hV : V A) (hd : rel A f i ∨ (f = 0 ∧ i = 5)) : RM (ms M 86 (B + mo f i) v) B (ms A f i v) := by
  have hdom : dom f i := by
    rcases hd with z | z
    · exact rel_dom hV z
    · exact Or.inl (by omega)
  have hsc : ∀ j, j = 0 ∨ j = 2 ∨ j = 3 → ms A f i v 0 j = A 0 j := by
    intro j hj
    rw [ms_app, if_neg]
    intro e
    rcases hd with z | z
    · have := (rel_f z).1; omega
    · omega
  have en1 : nd (ms A f i v) = nd A := by unfold nd na; rw [hsc 2 (by omega)]
  have en2 : np (ms A f i v) = np A := by unfold np na; rw [hsc 3 (by omega)]
  have er : ∀ g j, rel (ms A f i v) g j ↔ rel A g j := fun g j => by unfold rel; rw [en1, en2]
  refine ⟨fun j hj => ?_, fun g j hr => ?_, fun p d hp hd2 hn => ?_⟩
  · by_cases e : 0 = f ∧ j = i
    · rw [ms_app A, if_pos e, ← e.1, ← e.2, ms_eq]
    · rw [ms_app A, if_neg e, ms_ne2]
      · exact h.1 j hj
      · intro q
        exact e (mo_inj (f := 0) (i := j) (Or.inl ⟨by omega, hj⟩) hdom (by omega))
  · have hr := (er g j).mp hr
    by_cases e : g = f ∧ j = i
    · rw [ms_app A, if_pos e, e.1, e.2, ms_eq]
    · rw [ms_app A, if_neg e, ms_ne2]
      · exact h.2.1 g j hr
      · intro q
        exact e (mo_inj (rel_dom hV hr) hdom (by omega))
  · rw [en1, en2] at hn
    have k9 : B + 54 + 6 * p + d ≠ B + mo f i := by
      intro q
      obtain ⟨e1, e2⟩ := mo_inj (f := 9) (i := 6 * p + d) (Or.inr ⟨Or.inl rfl, by omega⟩) hdom (by show 54 + (6 * p + d) = mo f i; omega)
      rcases hd with z | z
      · rcases z with z | z | ⟨z, p', d', y1, y2, y3⟩
        · omega
        · omega
        · have := (V_nd hV).2
          exact hn ⟨by omega, by omega⟩
      · omega
    have k10 : B + 90 + 6 * p + d ≠ B + mo f i := by
      intro q
      obtain ⟨e1, e2⟩ := mo_inj (f := 10) (i := 6 * p + d) (Or.inr ⟨Or.inr rfl, by omega⟩) hdom (by show 90 + (6 * p + d) = mo f i; omega)
      rcases hd with z | z
      · rcases z with z | z | ⟨z, p', d', y1, y2, y3⟩
        · omega
        · omega
        · have := (V_nd hV).2
          exact hn ⟨by omega, by omega⟩
      · omega
    rw [ms_ne2 k9, ms_ne2 k10, en2]
    exact h.2.2 p d hp hd2 hn
/-- what an ACT may change in the class, and on both sides -/
def SC (k _j : Nat) : Prop := (21 ≤ k ∧ k ≤ 26) ∨ (29 ≤ k ∧ k ≤ 31) ∨ (41 ≤ k ∧ k ≤ 51)
def SAct (k j : Nat) : Prop := (21 ≤ k ∧ k ≤ 26) ∨ (29 ≤ k ∧ k ≤ 31) ∨ (41 ≤ k ∧ k ≤ 51) ∨ (k = 85 ∧ j = 1) ∨ (k = 86 ∧ j < 3150)
theorem nmin_le {n : Nat} (h : n ≤ 24) : nmin n ≤ 24 := by unfold nmin; split <;> omega
theorem Hist_both {M M1 M2 M3 : Mem} {n nx : Nat} (h : Hist M n nx) (hF : Fr SC M M1) (hr : ∀ q, q < 24 → q ≠ nx → M1 22 q = M 22 q ∧ M1 23 q = M 23 q ∧ M1 24 q = M 24 q ∧ M1 25 q = M 25 q ∧ M1 26 q = M 26 q) (h5 : M1 21 5 = nI ((nx + 1) % 24)) (h6 : M1 21 6 = nI (nmin n)) (hK : KP M1 M2 n) (h3 : ∀ k j, ¬ (k = 86 ∧ j < 126) → M3 k j = M2 k j)
    (hV : V (cv M1 41)) (hM : RM M3 0 (cv M1 41)) (hE : EOkR M1 nx (cv M1 41)) (hu : Alk (uR M1 nx (cv M1 41)) (cv M 41)) (hD : na (cv M1 41) 0 5 ≤ 999) : Hist M3 (nmin n) ((nx + 1) % 24) ∧ Fr SAct M M3 := by
  obtain ⟨k1, k2, k3, k4, k5, k6⟩ := hK
  have hn24 := h.1
  have hm := nmin_le hn24
  have e1 : ∀ k j, k ≤ 84 → M3 k j = M1 k j := fun k j hk => (h3 k j (by omega)).trans (k2 k j (by omega) (by omega))
  have ec : cv M3 41 = cv M1 41 := cv_eq (fun f i hf => e1 _ _ (by omega))
  have e86 : ∀ i, M1 86 i = M 86 i := fun i => hF 86 i (by unfold SC; omega)
  refine ⟨Hist_act h (fun q h1 h2 => ?_) ?_ ?_ ?_ ?_ ?_ ?_ ?_ ?_ ?_ (by rw [ec]; exact hD), ?_⟩
  · rw [e1 _ _ (by decide), e1 _ _ (by decide), e1 _ _ (by decide), e1 _ _ (by decide), e1 _ _ (by decide)]
    exact hr q h1 h2
  · rw [e1 _ _ (by decide)]; exact h5
  · rw [e1 _ _ (by decide)]; exact h6
  · rw [h3 _ _ (by decide)]; exact k1
  · rw [ec]; exact hV
  · rw [ec]; exact hM
  · rw [ec]
    unfold EOkR
    rw [e1 _ _ (by decide), e1 _ _ (by decide), e1 _ _ (by decide)]
    exact hE
  · rw [ec]
    unfold uR
    rw [e1 _ _ (by decide), e1 _ _ (by decide), e1 _ _ (by decide), e1 _ _ (by decide), e1 _ _ (by decide)]
    exact hu
  · intro i hi
    have : 1 ≤ nmin n := by unfold nmin; split <;> omega
    rw [h3 _ _ (by omega), k4 i hi]; exact e86 _
  · intro j h1 h2 i hi
    rw [h3 _ _ (by omega), k5 j h1 h2 i hi]; exact e86 _
  · intro k j hs
    unfold SAct at hs
    by_cases e : k = 86
    · subst e
      rw [h3 _ _ (by omega), k6 j (by omega)]; exact e86 _
    · rw [h3 _ _ (by omega), k2 k j (by omega) e]
      exact hF k j (by unfold SC; omega)
/-- the TOWN now -/
theorem H_cur {M : Mem} {n nx : Nat} (h : Hist M n nx) : V (cv M 41) ∧ RM M 0 (cv M 41) := h.2.2.2.2.2.1 0 (Nat.zero_le _)
theorem H_n {M : Mem} {n nx : Nat} (h : Hist M n nx) : n ≤ 24 ∧ nx < 24 ∧ M 21 6 = nI n ∧ M 85 1 = nI n ∧ M 21 5 = nI nx := ⟨h.1, h.2.1.1, h.2.2.1, h.2.2.2.1, h.2.2.2.2.1⟩
theorem H_day {M : Mem} {n nx : Nat} (h : Hist M n nx) : na (cv M 41) 0 5 ≤ 999 := h.2.1.2
theorem kpC_ring {M : Mem} {n nx : Nat} {a p d : Int32} : (∀ q, q < 24 → q ≠ nx → kpC M n nx a p d 22 q = M 22 q ∧ kpC M n nx a p d 23 q = M 23 q ∧ kpC M n nx a p d 24 q = M 24 q ∧ kpC M n nx a p d 25 q = M 25 q ∧ kpC M n nx a p d 26 q = M 26 q) ∧ kpC M n nx a p d 21 5 = nI ((nx + 1) % 24) ∧ kpC M n nx a p d 21 6 = nI (nmin n) ∧ kpC M n nx a p d 22 nx = a ∧ kpC M n nx a p d 23 nx = p ∧ kpC M n nx a p d 24 nx = d := by
  unfold kpC
  simp only [ms_app, and_self, and_true, true_and, ite_true]
  refine ⟨fun q h1 h2 => ⟨?_, ?_, ?_, ?_, ?_⟩, ?_, ?_, ?_, ?_⟩
  all_goals (repeat (first | rw [if_pos (by omega)] | rw [if_neg (by omega)]))
theorem kpC_o {M : Mem} {n nx : Nat} {a p d : Int32} {k : Nat} (hk : k < 21 ∨ 24 < k) (j : Nat) : kpC M n nx a p d k j = M k j := by
  unfold kpC
  simp only [ms_app]
  repeat (first | rw [if_pos (by omega)] | rw [if_neg (by omega)])
theorem kpC_fr {M : Mem} {n nx : Nat} {a p d : Int32} : Fr SC M (kpC M n nx a p d) := by
  intro k j h
  unfold SC at h
  unfold kpC
  simp only [ms_app]
  repeat (first | rw [if_pos (by omega)] | rw [if_neg (by omega)])
def PAct (M : Mem) (r r2 : Int32) (M2 : Mem) : Prop := r = r2 ∧ (∃ n nx, Hist M2 n nx) ∧ Fr SAct M M2
theorem pa_same {M : Mem} {n nx : Nat} (h : Hist M n nx) (v : Int32) : PAct M v v M := ⟨rfl, ⟨n, nx, h⟩, Fr_rf _ _⟩
/-- V with the gifts of p changed -/
theorem V_gift {A : Tn} {p : Nat} {v : Int32} (h : V A) (h1 : -9 ≤ v.toInt) (h2 : v.toInt ≤ 9) : V (ms A 6 p v) := by
  obtain ⟨h0, hd, hp, ht⟩ := h
  have e : ∀ f i, f ≠ 6 → ms A 6 p v f i = A f i := fun f i hf => by rw [ms_ne hf]
  have en : ∀ f i, f ≠ 6 → na (ms A 6 p v) f i = na A f i := fun f i hf => by unfold na; rw [e f i hf]
  have n0 : nr (ms A 6 p v) = nr A := en 0 0 (by decide)
  have n1 : nd (ms A 6 p v) = nd A := en 0 2 (by decide)
  have n2 : np (ms A 6 p v) = np A := en 0 3 (by decide)
  unfold V
  rw [n0, n1, n2, en 0 1 (by decide), en 0 4 (by decide), en 0 5 (by decide), e 0 0 (by decide), e 0 1 (by decide), e 0 2 (by decide), e 0 3 (by decide), e 0 4 (by decide), e 0 5 (by decide)]
  refine ⟨h0, fun d hd2 => ?_, fun q hq => ?_, fun q d hq hd2 => ?_⟩
  · rw [en 1 d (by decide), en 2 d (by decide), e 1 d (by decide), e 2 d (by decide)]
    exact hd d hd2
  · rw [en 3 q (by decide), en 4 q (by decide), en 5 q (by decide), en 7 q (by decide), en 8 q (by decide), e 3 q (by decide), e 4 q (by decide), e 5 q (by decide), e 7 q (by decide), e 8 q (by decide)]
    obtain ⟨a1, a2, a3, a4, a5, a6, a7, a8, a9, a10, a11, a12, a13⟩ := hp q hq
    refine ⟨a1, a2, a3, a4, a5, a6, a7, ?_, ?_, a10, a11, a12, a13⟩
    · rw [ms_app]; split
      · exact h1
      · exact a8
    · rw [ms_app]; split
      · exact h2
      · exact a9
  · rw [en 9 _ (by decide), e 9 _ (by decide)]
    exact ht q d hq hd2
theorem gift_both {M : Mem} {n nx p : Nat} {by1 act : Int32} (h : Hist M n nx) (hp : p < np (cv M 41)) (hb : (by1 = 1 ∧ act = 3) ∨ (by1 = -1 ∧ act = 4)) : wJ_X8_gift_21 (fun r M1 => w_X9_gift M1 (nI p) by1 (fun r2 M2 => PAct M r r2 M2)) M (nI p) by1 := by
  obtain ⟨hV, hM⟩ := H_cur h
  obtain ⟨g1, g2, g3, g4, g5⟩ := H_n h
  have hn := (V_np hV).2
  have e6 : M (41 + 6) p = cv M 41 6 p := (cv_at M 41 6 p (by decide)).symm
  have m6 : M 86 (36 + p) = cv M 41 6 p := RM0p hM hp (f := 6) (by decide) (by decide)
  have hin : vp_in (nI p) 6 := vp_in_nI (by omega) (by decide)
  have hi36 : vp_in (nI (36 + p)) 3528 := vp_in_nI (by omega) (by decide)
  have m9 : ∀ M1 : Mem, (∀ i, M1 86 i = M 86 i) → ∀ R : Int32 → Mem → Prop, wJ_X9_gift_21 R M1 (nI p) by1 → w_X9_gift M1 (nI p) by1 R := by
    intro M1 hF R hR
    have hM1 : RM M1 0 (cv M 41) := RM_86 hM hV hF
    unfold w_X9_gift
    refine P9 hM1 hV (fun p2 hp2 e => br1 ⟨fun _ => hR, fun z => ⟨fun _ => hR, fun z2 => ?_⟩⟩) (fun h => absurd ⟨p, hp, rfl⟩ h)
    rcases hb with ⟨hb, _⟩ | ⟨hb, _⟩
    · exact absurd hb z
    · exact absurd hb z2
  unfold wJ_X8_gift_21
  rw [ix_nat (by omega), e6]
  refine ⟨hin, fun v2 e2 => ?_⟩
  have rng := hV.2.2.1 p hp
  have full : ¬ (-9 ≤ v2 ∧ v2 ≤ 9) → w_X9_gift M (nI p) by1 (fun r2 M2 => PAct M (-1000003) r2 M2) := by
    intro hn9
    refine m9 M (fun _ => rfl) _ ?_
    unfold wJ_X9_gift_21
    rw [show 36 + nI p = nI (36 + p) from lin2 36 p]
    intro v1 e1
    rw [e1, ix_nat (by omega), m6, ← e2]
    refine ⟨hi36, ?_⟩
    rw [show (-9 : Int64) = (-9 : Int32).toInt64 from by decide, show (9 : Int64) = (9 : Int32).toInt64 from by decide, W9_inI, bI_f hn9]
    exact cr0 (pa_same h _)
  refine ⟨fun z => full (fun y => absurd z (Int32.not_lt.mpr y.2)), fun z => ⟨fun z2 => ?_, fun z2 => full (fun y => z2 y.1)⟩⟩
  have h9 : -9 ≤ v2 ∧ v2 ≤ 9 := ⟨z2, Int32.not_lt.mp z⟩
  have fin : wJ_X8_gift_62 (fun r M1 => w_X9_gift M1 (nI p) by1 (fun r2 M2 => PAct M r r2 M2)) M (nI p) v2 act := by
    unfold wJ_X8_gift_62
    refine W0_keep g1 g2 g5 g3 ?_
    rw [ix_nat (by omega)]
    refine ⟨hin, fun M1 e1 => ?_⟩
    have eK := kpC_ring (M := M) (n := n) (nx := nx) (a := act) (p := nI p) (d := 0)
    have hF1 : Fr SC M M1 := by rw [e1]; exact Fr_ms kpC_fr _ (by unfold SC; omega)
    have o86 : ∀ i, M1 86 i = M 86 i := fun i => hF1 86 i (by unfold SC; omega)
    have o851 : M1 85 1 = nI n := (hF1 85 1 (by unfold SC; omega)).trans g4
    have ec : cv M1 41 = ms (cv M 41) 6 p v2 := by
      rw [e1, cv_ms _ _ _ _ _ (by decide), cv_eq (M := M) (fun f i hf => kpC_o (by omega) i)]
    refine m9 M1 o86 _ ?_
    unfold wJ_X9_gift_21
    rw [show 36 + nI p = nI (36 + p) from lin2 36 p]
    intro v1 ev1
    rw [ev1, ix_nat (by omega), o86, m6, ← e2]
    refine ⟨hi36, ?_⟩
    rw [show (-9 : Int64) = (-9 : Int32).toInt64 from by decide, show (9 : Int64) = (9 : Int32).toInt64 from by decide, W9_inI, bI_t h9]
    refine cr1 (W9_keepPast g1 o851 (fun M2 hK => ?_))
    have k36 : M2 86 (36 + p) = cv M 41 6 p := by rw [hK.2.2.1 _ (by omega), o86, m6]
    intro v8 ev8
    rw [ev8, ix_nat (by omega), k36, ← e2]
    refine ⟨hi36, fun v10 e10 => ⟨hi36, fun M12 e12 v13 e13 => ?_⟩⟩
    rw [e13, ix_nat (by omega)]
    refine ⟨hi36, ?_⟩
    have hv10 : v10 = v2 := e10
    rw [e12, ms_eq, hv10]
    have rngI : -9 ≤ v2.toInt ∧ v2.toInt ≤ 9 := by
      have a1 := (fa_le _ _).mp h9.1
      have a2 := (fa_le _ _).mp h9.2
      rw [show (-9 : Int32).toInt = -9 from by decide] at a1
      rw [show (9 : Int32).toInt = 9 from by decide] at a2
      exact ⟨a1, a2⟩
    have hV1 : V (cv M1 41) := by rw [ec]; exact V_gift hV rngI.1 rngI.2
    have hE : EOkR M1 nx (cv M1 41) := by
      have a22 : M1 22 nx = act := by rw [e1, ms_ne (by decide)]; exact eK.2.2.2.1
      have a23 : M1 23 nx = nI p := by rw [e1, ms_ne (by decide)]; exact eK.2.2.2.2.1
      have hpp : np (cv M1 41) = np (cv M 41) := by rw [ec]; unfold np na; rw [ms_ne (by decide)]
      unfold EOkR EOk
      rw [a22, a23, ix_nat (by omega), hpp]
      refine ⟨⟨fun e => ?_, fun _ => hp, fun e => ?_⟩, fun e => ?_, fun _ => ⟨p, by omega, rfl⟩⟩
      · rcases hb with ⟨_, hb⟩ | ⟨_, hb⟩ <;> exact absurd (hb.symm.trans e) (by decide)
      · rcases hb with ⟨_, hb⟩ | ⟨_, hb⟩ <;> exact absurd (hb.symm.trans e) (by decide)
      · rcases hb with ⟨_, hb⟩ | ⟨_, hb⟩ <;> exact absurd (hb.symm.trans e) (by decide)
    have hu : Alk (uR M1 nx (cv M1 41)) (cv M 41) := by
      have a22 : M1 22 nx = act := by rw [e1, ms_ne (by decide)]; exact eK.2.2.2.1
      have a23 : M1 23 nx = nI p := by rw [e1, ms_ne (by decide)]; exact eK.2.2.2.2.1
      have eA : uR M1 nx (cv M1 41) = cv M 41 := by
        unfold uR uA
        rw [a22, a23, ix_nat (by omega), ec]
        have back : ∀ w : Int32, w = cv M 41 6 p → ms (ms (cv M 41) 6 p v2) 6 p w = cv M 41 := by
          intro w ew
          funext f i
          rw [ms_app, ms_app]
          by_cases e : f = 6 ∧ i = p
          · rw [if_pos e, ew, e.1, e.2]
          · rw [if_neg e, if_neg e]
        rcases hb with ⟨hb1, hb2⟩ | ⟨hb1, hb2⟩
        · rw [hb2, if_neg (by decide), if_neg (by decide), if_pos rfl]
          refine back _ ?_
          rw [ms_eq, e2, hb1, Int32.add_sub_cancel]
        · rw [hb2, if_neg (by decide), if_neg (by decide), if_neg (by decide), if_pos rfl]
          refine back _ ?_
          rw [ms_eq, e2, hb1, ← Int32.sub_eq_add_neg, Int32.sub_add_cancel]
      rw [eA]
      exact Alk_rf _
    have hM3 : RM (ms M2 86 (36 + p) v2) 0 (cv M1 41) := by
      rw [ec]
      have hMk : RM M2 0 (cv M 41) := RM_fr (RM_86 hM hV o86) hV (fun i hi => by rw [Nat.zero_add]; exact hK.2.2.1 i hi)
      have := RM_ms (f := 6) (i := p) (v := v2) hMk hV (Or.inl (rel_p (by decide) (by decide) hp))
      rw [show 0 + mo 6 p = 36 + p from by show 0 + (6 * 6 + p) = _; omega] at this
      exact this
    have hh := Hist_both (M3 := ms M2 86 (36 + p) v2) h hF1 (fun q h1 h2 => by
      rw [e1, ms_ne (by decide), ms_ne (by decide), ms_ne (by decide), ms_ne (by decide), ms_ne (by decide)]
      exact eK.1 q h1 h2) (by rw [e1, ms_ne (by decide)]; exact eK.2.1) (by rw [e1, ms_ne (by decide)]; exact eK.2.2.1) hK (fun k j hkj => by rw [ms_app, if_neg (by omega)]) hV1 hM3 hE hu (by rw [ec]; unfold na; rw [ms_ne (by decide)]; exact H_day h)
    exact ⟨rfl, ⟨_, _, hh.1⟩, hh.2⟩
  rcases hb with ⟨hb1, hb2⟩ | ⟨hb1, hb2⟩
  · rw [hb2] at fin
    exact ⟨fun y => absurd hb1 y, fun _ => fin⟩
  · rw [hb2] at fin
    refine ⟨fun _ => fin, fun y => ?_⟩
    exact absurd (hb1.symm.trans y) (by decide)
theorem S_gift (M : Mem) (a b : Int32) (n nx : Nat) (h : Hist M n nx) : w_X8_gift M a b (fun r M1 => w_X9_gift M1 a b (fun r2 M2 => PAct M r r2 M2)) := by
  obtain ⟨hV, hM⟩ := H_cur h
  unfold w_X8_gift
  refine P8 (RC_cv M 41) hV (fun p hp e => br1 ?_) (fun hne => br0 ?_)
  · subst e
    refine ⟨fun z => gift_both h hp (Or.inl ⟨z, rfl⟩), fun z => ⟨fun z2 => gift_both h hp (Or.inr ⟨z2, rfl⟩), fun z2 => ?_⟩⟩
    unfold w_X9_gift
    exact P9 hM hV (fun p2 hp2 e => br1 ⟨fun y => absurd y z, fun _ => ⟨fun y => absurd y z2, fun _ => pa_same h _⟩⟩) (fun h => absurd ⟨p, hp, rfl⟩ h)
  · unfold w_X9_gift
    exact P9 hM hV (fun p hp e => absurd ⟨p, hp, e⟩ hne) (fun _ => br0 (pa_same h _))
