/-! ACTS and what was before them -/
def cv (M : Mem) (T : Nat) : Tn := fun f i => if f ≤ 10 then M (T + f) i else 0
theorem rel_f {A : Tn} {f i : Nat} (hr : rel A f i) : 1 ≤ f ∧ f ≤ 10 := by rcases hr with z | z | z <;> omega
theorem cv_at (M : Mem) (T f i : Nat) (hf : f ≤ 10) : cv M T f i = M (T + f) i := if_pos hf
theorem RC_cv (M : Mem) (T : Nat) : RC M T (cv M T) := ⟨fun j _ => (cv_at M T 0 j (by decide)).symm, fun f i hr => (cv_at M T f i (rel_f hr).2).symm⟩
theorem cv_ms (M : Mem) (T f i : Nat) (v : Int32) (hf : f ≤ 10) : cv (ms M (T + f) i v) T = ms (cv M T) f i v := by
  funext g j
  unfold cv
  rw [ms_app, ms_app]
  by_cases hg : g ≤ 10
  · rw [if_pos hg]
    by_cases e : g = f ∧ j = i
    · rw [if_pos e, if_pos (by omega)]
    · rw [if_neg e, if_neg (by omega), if_pos hg]
  · rw [if_neg hg, if_neg (by omega), if_neg hg]
theorem cv_eq {M M2 : Mem} {T : Nat} (h : ∀ f i, f ≤ 10 → M2 (T + f) i = M (T + f) i) : cv M2 T = cv M T := by
  funext f i
  unfold cv
  by_cases hf : f ≤ 10
  · rw [if_pos hf, if_pos hf]; exact h f i hf
  · rw [if_neg hf, if_neg hf]
/-- alike in all that counts -/
def Alk (A B : Tn) : Prop := (∀ j, j < 6 → A 0 j = B 0 j) ∧ ∀ f i, rel A f i → A f i = B f i
theorem Alk_rf (A : Tn) : Alk A A := ⟨fun _ _ => rfl, fun _ _ _ => rfl⟩
theorem Alk_n {A B : Tn} (h : Alk A B) : nr B = nr A ∧ nd B = nd A ∧ np B = np A := by
  unfold nr nd np na
  rw [h.1 0 (by decide), h.1 2 (by decide), h.1 3 (by decide)]
  exact ⟨rfl, rfl, rfl⟩
theorem Alk_rel {A B : Tn} (h : Alk A B) (f i : Nat) : rel B f i ↔ rel A f i := by
  unfold rel
  rw [(Alk_n h).2.1, (Alk_n h).2.2]
theorem Alk_sy {A B : Tn} (h : Alk A B) : Alk B A := ⟨fun j hj => (h.1 j hj).symm, fun f i hr => (h.2 f i ((Alk_rel h f i).mp hr)).symm⟩
theorem Alk_tr {A B C : Tn} (h : Alk A B) (h2 : Alk B C) : Alk A C := ⟨fun j hj => (h.1 j hj).trans (h2.1 j hj), fun f i hr => (h.2 f i hr).trans (h2.2 f i ((Alk_rel h f i).mpr hr))⟩
theorem RM_alk {M : Mem} {B : Nat} {A A2 : Tn} (h : RM M B A) (ha : Alk A A2) : RM M B A2 := by
  refine ⟨fun j hj => (h.1 j hj).trans (ha.1 j hj), fun f i hr => ?_, fun p d hp hd hn => ?_⟩
  · have hr2 := (Alk_rel ha f i).mp hr
    exact (h.2.1 f i hr2).trans (ha.2 f i hr2)
  · rw [(Alk_n ha).2.1, (Alk_n ha).2.2] at hn
    rw [(Alk_n ha).2.2]
    exact h.2.2 p d hp hd hn
theorem V_alk {A B : Tn} (h : V A) (ha : Alk A B) : V B := by
  obtain ⟨n0, n1, n2⟩ := Alk_n ha
  have s := ha.1
  obtain ⟨⟨a1, a2, a3, a4, a5, a6, a7, a8, a9, a10, a11, a12, a13⟩, hd, hp, ht⟩ := h
  have e1 : na B 0 1 = na A 0 1 := by unfold na; rw [s 1 (by decide)]
  have e4 : na B 0 4 = na A 0 4 := by unfold na; rw [s 4 (by decide)]
  have e5 : na B 0 5 = na A 0 5 := by unfold na; rw [s 5 (by decide)]
  refine ⟨⟨?_, ?_, ?_, ?_, ?_, ?_, ?_, ?_, ?_, ?_, ?_, ?_, ?_⟩, fun d hd2 => ?_, fun p hp2 => ?_, fun p d hp2 hd2 => ?_⟩
  · rw [n0, ← s 0 (by decide)]; exact a1
  · rw [n0]; exact a2
  · rw [e1, ← s 1 (by decide)]; exact a3
  · rw [e1]; exact a4
  · rw [n1, ← s 2 (by decide)]; exact a5
  · rw [n1]; exact a6
  · rw [n2, ← s 3 (by decide)]; exact a7
  · rw [n2]; exact a8
  · rw [e4, ← s 4 (by decide)]; exact a9
  · rw [e4]; exact a10
  · rw [e5, ← s 5 (by decide)]; exact a11
  · rw [e5]; exact a12
  · rw [n0, n1, n2]; exact a13
  · rw [n1] at hd2
    have h1 := ha.2 1 d (rel_d (by decide) (by decide) hd2)
    have h2 := ha.2 2 d (rel_d (by decide) (by decide) hd2)
    have g1 : na B 1 d = na A 1 d := by unfold na; rw [h1]
    have g2 : na B 2 d = na A 2 d := by unfold na; rw [h2]
    rw [g1, g2, ← h1, ← h2, n0]
    exact hd d hd2
  · rw [n2] at hp2
    have h3 := ha.2 3 p (rel_p (by decide) (by decide) hp2)
    have h4 := ha.2 4 p (rel_p (by decide) (by decide) hp2)
    have h5 := ha.2 5 p (rel_p (by decide) (by decide) hp2)
    have h6 := ha.2 6 p (rel_p (by decide) (by decide) hp2)
    have h7 := ha.2 7 p (rel_p (by decide) (by decide) hp2)
    have h8 := ha.2 8 p (rel_p (by decide) (by decide) hp2)
    have g3 : na B 3 p = na A 3 p := by unfold na; rw [h3]
    have g4 : na B 4 p = na A 4 p := by unfold na; rw [h4]
    have g5 : na B 5 p = na A 5 p := by unfold na; rw [h5]
    have g7 : na B 7 p = na A 7 p := by unfold na; rw [h7]
    have g8 : na B 8 p = na A 8 p := by unfold na; rw [h8]
    rw [g3, g4, g5, g7, g8, ← h3, ← h4, ← h5, ← h6, ← h7, ← h8, n0]
    exact hp p hp2
  · rw [n1] at hd2
    rw [n2] at hp2
    have h9 := ha.2 9 _ (rel_9 hp2 hd2)
    have g9 : na B 9 (6 * p + d) = na A 9 (6 * p + d) := by unfold na; rw [h9]
    rw [g9, ← h9]
    exact ht p d hp2 hd2
/-- the other side of door d from where p is -/
def crs (A : Tn) (p d : Nat) : Int32 := if A 4 p = A 1 d then A 2 d else A 1 d
/-- what ACT a of p at d, with what it remembered, came from -/
def uA (a : Int32) (p d : Nat) (tb lb : Int32) (A : Tn) : Tn := if a = 1 then ms (ms (ms A 4 p (crs A p d)) 9 (6 * p + d) tb) 10 (6 * p + d) lb else if a = 2 then ms A 0 5 (A 0 5 - 1) else if a = 3 then ms A 6 p (A 6 p - 1) else if a = 4 then ms A 6 p (A 6 p + 1) else if a = 5 then ms A 0 2 (A 0 2 - 1) else A
/-- the ACT fits the TOWN that it led to -/
def EOk (a : Int32) (p d : Nat) (A : Tn) : Prop := (a = 1 → p < np A ∧ d < nd A) ∧ (a = 3 ∨ a = 4 → p < np A) ∧ (a = 5 → 0 < nd A)
theorem uA_alk {a tb lb : Int32} {p d : Nat} {A B : Tn} (ha : Alk A B) (he : EOk a p d A) (hV : V A) : Alk (uA a p d tb lb A) (uA a p d tb lb B) := by
  obtain ⟨n0, n1, n2⟩ := Alk_n ha
  unfold uA
  by_cases h1 : a = 1
  · rw [if_pos h1, if_pos h1]
    obtain ⟨hp, hd⟩ := he.1 h1
    have ec : crs A p d = crs B p d := by
      unfold crs
      rw [ha.2 4 p (rel_p (by decide) (by decide) hp), ha.2 1 d (rel_d (by decide) (by decide) hd), ha.2 2 d (rel_d (by decide) (by decide) hd)]
    rw [← ec]
    have sc : ∀ (C : Tn) (j : Nat), ms (ms (ms C 4 p (crs A p d)) 9 (6 * p + d) tb) 10 (6 * p + d) lb 0 j = C 0 j := fun C j => by rw [ms_ne (by decide), ms_ne (by decide), ms_ne (by decide)]
    refine ⟨fun j hj => by rw [sc, sc]; exact ha.1 j hj, fun f i hr => ?_⟩
    have hr2 : rel A f i := by
      unfold rel nd np na at hr ⊢
      rw [sc, sc] at hr
      exact hr
    simp only [ms_app]
    rw [ha.2 f i hr2]
  · rw [if_neg h1, if_neg h1]
    by_cases h2 : a = 2
    · rw [if_pos h2, if_pos h2]
      refine ⟨fun j hj => ?_, fun f i hr => ?_⟩
      · simp only [ms_app]
        rw [ha.1 5 (by decide), ha.1 j hj]
      · have hr2 : rel A f i := by
          unfold rel nd np na at hr ⊢
          rw [ms_ne2 (by decide), ms_ne2 (by decide)] at hr
          exact hr
        have hf : f ≠ 0 := by rcases hr2 with z | z | z <;> omega
        rw [ms_ne hf, ms_ne hf]
        exact ha.2 f i hr2
    · rw [if_neg h2, if_neg h2]
      have g36 : ∀ v w : Int32, v = w → Alk (ms A 6 p v) (ms B 6 p w) := by
        intro v w e
        subst e
        refine ⟨fun j hj => by rw [ms_ne (by decide), ms_ne (by decide)]; exact ha.1 j hj, fun f i hr => ?_⟩
        have hr2 : rel A f i := by
          unfold rel nd np na at hr ⊢
          rw [ms_ne (by decide)] at hr
          exact hr
        simp only [ms_app]
        rw [ha.2 f i hr2]
      by_cases h3 : a = 3
      · rw [if_pos h3, if_pos h3]
        refine g36 _ _ ?_
        rw [ha.2 6 p (rel_p (by decide) (by decide) (he.2.1 (Or.inl h3)))]
      · rw [if_neg h3, if_neg h3]
        by_cases h4 : a = 4
        · rw [if_pos h4, if_pos h4]
          refine g36 _ _ ?_
          rw [ha.2 6 p (rel_p (by decide) (by decide) (he.2.1 (Or.inr h4)))]
        · rw [if_neg h4, if_neg h4]
          by_cases h5 : a = 5
          · rw [if_pos h5, if_pos h5]
            have hd0 := he.2.2 h5
            have hd6 := (V_nd hV)
            refine ⟨fun j hj => ?_, fun f i hr => ?_⟩
            · simp only [ms_app]
              rw [ha.1 2 (by decide), ha.1 j hj]
            · have en : nd (ms A 0 2 (A 0 2 - 1)) = nd A - 1 := by
                unfold nd na
                rw [ms_eq]
                show Int32.toNatClampNeg (A 0 2 - 1) = nd A - 1
                rw [hd6.1, show nd A = (nd A - 1) + 1 by omega, nI_pred, ix_nat (by omega)]
                omega
              have ep : np (ms A 0 2 (A 0 2 - 1)) = np A := by
                unfold np na
                rw [ms_ne2 (by decide)]
              have hr2 : rel A f i := by
                unfold rel at hr ⊢
                rw [en, ep] at hr
                rcases hr with z | z | ⟨z, p', d', y⟩
                · exact Or.inl (by omega)
                · exact Or.inr (Or.inl z)
                · exact Or.inr (Or.inr ⟨z, p', d', by omega, by omega, y.2.2⟩)
              have hf : f ≠ 0 := by rcases hr2 with z | z | z <;> omega
              rw [ms_ne hf, ms_ne hf]
              exact ha.2 f i hr2
          · rw [if_neg h5, if_neg h5]
            exact ha
/-- the ring's place of the ACT i back, if the next one comes to nx -/
def pos (nx i : Nat) : Nat := (nx + 47 - i) % 24
def uR (M : Mem) (q : Nat) (A : Tn) : Tn := uA (M 22 q) (Int32.toNatClampNeg (M 23 q)) (Int32.toNatClampNeg (M 24 q)) (M 25 q) (M 26 q) A
/-- the TOWN i ACTS back -/
def bk (M : Mem) (nx : Nat) : Nat → Tn
  | 0 => cv M 41
  | i + 1 => uR M (pos nx i) (bk M nx i)
def EOkR (M : Mem) (q : Nat) (A : Tn) : Prop := EOk (M 22 q) (Int32.toNatClampNeg (M 23 q)) (Int32.toNatClampNeg (M 24 q)) A ∧ (M 22 q = 1 → isIx (M 23 q) 6 ∧ isIx (M 24 q) 6) ∧ (M 22 q = 3 ∨ M 22 q = 4 → isIx (M 23 q) 6)
def hb (n i : Nat) : Nat := if i = 0 then 0 else 126 * (n - i + 1)
def Hist (M : Mem) (n nx : Nat) : Prop := n ≤ 24 ∧ (nx < 24 ∧ na (cv M 41) 0 5 ≤ 999) ∧ M 21 6 = nI n ∧ M 85 1 = nI n ∧ M 21 5 = nI nx ∧ (∀ i, i ≤ n → V (bk M nx i) ∧ RM M (hb n i) (bk M nx i)) ∧ ∀ i, i < n → EOkR M (pos nx i) (bk M nx i)
def nmin (n : Nat) : Nat := if n = 24 then 24 else n + 1
/-- one more ACT -/
theorem Hist_act {M M2 : Mem} {n nx : Nat} (h : Hist M n nx) (hr : ∀ q, q < 24 → q ≠ nx → M2 22 q = M 22 q ∧ M2 23 q = M 23 q ∧ M2 24 q = M 24 q ∧ M2 25 q = M 25 q ∧ M2 26 q = M 26 q) (h5 : M2 21 5 = nI ((nx + 1) % 24)) (h6 : M2 21 6 = nI (nmin n)) (h1 : M2 85 1 = nI (nmin n))
    (hV : V (cv M2 41)) (hM : RM M2 0 (cv M2 41)) (hE : EOkR M2 nx (cv M2 41)) (hu : Alk (uR M2 nx (cv M2 41)) (cv M 41))
    (hn : ∀ i, i < 126 → M2 86 (126 * nmin n + i) = M 86 i) (ho : ∀ j, 1 ≤ j → j < nmin n → ∀ i, i < 126 → M2 86 (126 * j + i) = M 86 (126 * (if n = 24 then j + 1 else j) + i)) (hD : na (cv M2 41) 0 5 ≤ 999) : Hist M2 (nmin n) ((nx + 1) % 24) := by
  obtain ⟨hn24, ⟨hx24, -⟩, k6, k1, k5, hb1, he⟩ := h
  have hnm : nmin n ≤ 24 ∧ nmin n ≤ n + 1 := by unfold nmin; split <;> omega
  have p0 : pos ((nx + 1) % 24) 0 = nx := by unfold pos; omega
  have ps : ∀ i, i < 23 → pos ((nx + 1) % 24) (i + 1) = pos nx i ∧ pos nx i ≠ nx ∧ pos nx i < 24 := by
    intro i hi
    unfold pos
    omega
  have hbk : ∀ i, i < nmin n → Alk (bk M2 ((nx + 1) % 24) (i + 1)) (bk M nx i) := by
    intro i
    induction i with
    | zero =>
      intro _
      show Alk (uR M2 (pos ((nx + 1) % 24) 0) (cv M2 41)) (cv M 41)
      rw [p0]; exact hu
    | succ i ih =>
      intro hi
      have h1 := ih (by omega)
      obtain ⟨q1, q2, q3⟩ := ps i (by omega)
      obtain ⟨g1, g2, g3, g4, g5⟩ := hr (pos nx i) q3 q2
      show Alk (uR M2 (pos ((nx + 1) % 24) (i + 1)) (bk M2 ((nx + 1) % 24) (i + 1))) (uR M (pos nx i) (bk M nx i))
      rw [q1]
      unfold uR
      rw [g1, g2, g3, g4, g5]
      refine Alk_sy (uA_alk (Alk_sy h1) (he i (by omega)).1 (hb1 i (by omega)).1)
  refine ⟨hnm.1, ⟨by omega, hD⟩, h6, h1, h5, fun i hi => ?_, fun i hi => ?_⟩
  · cases i with
    | zero => exact ⟨hV, hM⟩
    | succ i =>
      have ha := Alk_sy (hbk i (by omega))
      have hv := (hb1 i (by omega)).1
      refine ⟨V_alk hv ha, RM_alk ?_ ha⟩
      have hm := (hb1 i (by omega)).2
      unfold hb
      rw [if_neg (by omega)]
      have key : ∀ (a b : Nat), RM M b (bk M nx i) → (∀ k, k < 126 → M2 86 (a + k) = M 86 (b + k)) → RM M2 a (bk M nx i) := by
        intro a b hm hk
        refine ⟨fun j hj => ?_, fun f t hr => ?_, fun p d hp hd hn => ?_⟩
        · rw [hk _ (by have := mo0_lt hj; omega)]; exact hm.1 j hj
        · rw [hk _ (mo_lt hv hr)]; exact hm.2.1 f t hr
        · have := hm.2.2 p d hp hd hn
          rw [show b + 54 + 6 * p + d = b + (54 + 6 * p + d) by omega, show b + 90 + 6 * p + d = b + (90 + 6 * p + d) by omega] at this
          rw [show a + 54 + 6 * p + d = a + (54 + 6 * p + d) by omega, show a + 90 + 6 * p + d = a + (90 + 6 * p + d) by omega]
          rw [hk _ (by omega), hk _ (by omega)]
          exact this
      refine key _ _ hm (fun k hk => ?_)
      unfold hb
      by_cases e0 : i = 0
      · subst e0
        rw [if_pos rfl, show nmin n - (0 + 1) + 1 = nmin n by omega, Nat.zero_add]
        exact hn k hk
      · rw [if_neg e0, ho (nmin n - (i + 1) + 1) (by omega) (by omega) k hk]
        congr 2
        unfold nmin
        by_cases e : n = 24
        · rw [if_pos e, if_pos e]; omega
        · rw [if_neg e, if_neg e]; omega
  · cases i with
    | zero => rw [p0]; exact hE
    | succ i =>
      obtain ⟨q1, q2, q3⟩ := ps i (by omega)
      obtain ⟨g1, g2, g3, g4, g5⟩ := hr (pos nx i) q3 q2
      rw [q1]
      have ha := Alk_sy (hbk i (by omega))
      obtain ⟨e1, e2, e3⟩ := he i (by omega)
      obtain ⟨-, n1, n2⟩ := Alk_n ha
      unfold EOkR
      rw [g1, g2, g3]
      refine ⟨?_, e2, e3⟩
      unfold EOk at e1 ⊢
      rw [n1, n2]
      exact e1
