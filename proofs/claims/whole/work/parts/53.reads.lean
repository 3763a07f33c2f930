/-! who and what is there: the checks of both sides -/
section CK
variable {M : Mem} {A : Tn} {x : Int32} {Q : Int32 → Mem → Prop}
theorem P8 (hC : RC M 41 A) (hV : V A) (q1 : ∀ p, p < np A → x = nI p → Q 1 M) (q0 : ¬ isIx x (np A) → Q 0 M) : w_X8_isPerson M x Q := by
  have hn := (V_np hV).2
  exact W8m ((hC.1 3 (by decide)).trans (V_np hV).1) (by omega) (fun ⟨p, hp, e⟩ => ⟨Or.inr rfl, q1 p hp e⟩) (fun h => ⟨Or.inl rfl, q0 h⟩)
theorem D8 (hC : RC M 41 A) (hV : V A) (q1 : ∀ p, p < nd A → x = nI p → Q 1 M) (q0 : ¬ isIx x (nd A) → Q 0 M) : w_X8_isDoor M x Q := by
  have hn := (V_nd hV).2
  exact W8m ((hC.1 2 (by decide)).trans (V_nd hV).1) (by omega) (fun ⟨p, hp, e⟩ => ⟨Or.inr rfl, q1 p hp e⟩) (fun h => ⟨Or.inl rfl, q0 h⟩)
theorem R8 (hC : RC M 41 A) (hV : V A) (q1 : ∀ p, p < nr A → x = nI p → Q 1 M) (q0 : ¬ isIx x (nr A) → Q 0 M) : w_X8_isRoom M x Q := by
  have hn := (V_nr hV).2
  exact W8m ((hC.1 0 (by decide)).trans (V_nr hV).1) (by omega) (fun ⟨p, hp, e⟩ => ⟨Or.inr rfl, q1 p hp e⟩) (fun h => ⟨Or.inl rfl, q0 h⟩)
theorem RM0 {j : Nat} (h : RM M 0 A) (hj : j < 6) : M 86 (mo 0 j) = A 0 j := by
  have := h.1 j hj
  rw [Nat.zero_add] at this
  exact this
theorem RM0p {f p : Nat} (h : RM M 0 A) (hp : p < np A) (h1 : 3 ≤ f) (h2 : f ≤ 8) : M 86 (6 * f + p) = A f p := by
  have := RM_p h hp h1 h2
  rw [show 0 + 6 * f + p = 6 * f + p by omega] at this
  exact this
theorem P9 (hC : RM M 0 A) (hV : V A) (q1 : ∀ p, p < np A → x = nI p → Q 1 M) (q0 : ¬ isIx x (np A) → Q 0 M) : w_X9_isPerson M x Q := by
  have hn := (V_np hV).2
  exact W9m ((RM0 hC (j := 3) (by decide)).trans (V_np hV).1) (by omega) (fun ⟨p, hp, e⟩ => ⟨Or.inr rfl, q1 p hp e⟩) (fun h => ⟨Or.inl rfl, q0 h⟩)
theorem D9 (hC : RM M 0 A) (hV : V A) (q1 : ∀ p, p < nd A → x = nI p → Q 1 M) (q0 : ¬ isIx x (nd A) → Q 0 M) : w_X9_isDoor M x Q := by
  have hn := (V_nd hV).2
  exact W9m ((RM0 hC (j := 2) (by decide)).trans (V_nd hV).1) (by omega) (fun ⟨p, hp, e⟩ => ⟨Or.inr rfl, q1 p hp e⟩) (fun h => ⟨Or.inl rfl, q0 h⟩)
theorem R9 (hC : RM M 0 A) (hV : V A) (q1 : ∀ p, p < nr A → x = nI p → Q 1 M) (q0 : ¬ isIx x (nr A) → Q 0 M) : w_X9_isRoom M x Q := by
  have hn := (V_nr hV).2
  exact W9m ((RM0 hC (j := 0) (by decide)).trans (V_nr hV).1) (by omega) (fun ⟨p, hp, e⟩ => ⟨Or.inr rfl, q1 p hp e⟩) (fun h => ⟨Or.inl rfl, q0 h⟩)
theorem br1 {P1 P2 : Prop} (h : P2) : ((1 : Int32) = 0 → P1) ∧ (¬ (1 : Int32) = 0 → P2) := ⟨fun e => absurd e (by decide), fun _ => h⟩
theorem br0 {P1 P2 : Prop} (h : P1) : ((0 : Int32) = 0 → P1) ∧ (¬ (0 : Int32) = 0 → P2) := ⟨fun _ => h, fun e => absurd rfl e⟩
theorem cr1 {P1 P2 : Prop} (h : P2) : (¬ (1 : Int32) = 0 → P2) ∧ ((1 : Int32) = 0 → P1) := ⟨fun _ => h, fun e => absurd e (by decide)⟩
theorem cr0 {P1 P2 : Prop} (h : P1) : (¬ (0 : Int32) = 0 → P2) ∧ ((0 : Int32) = 0 → P1) := ⟨fun e => absurd rfl e, fun _ => h⟩
end CK
/-- all TIMES of p -/
def tsum (A : Tn) (p : Nat) : Nat := fb_sm (fun d => na A 9 (6 * p + d)) (nd A)
section TS
variable {M : Mem} {T : Nat} {A : Tn} {p d c : Nat} {Q : Int32 → Mem → Prop}
theorem W6_tsum (hA : RC M T A) (hV : V A) (hp : p < np A) (q : Q (nI (tsum A p)) M) : w_X6_timesOf T M (nI p) Q := by
  have hn := (V_np hV).2
  have hm := (V_nd hV).2
  have e2 : M T 2 = nI (nd A) := (hA.1 2 (by decide)).trans (V_nd hV).1
  have go : ∀ m i : Nat, i + m = nd A → wL_X6_timesOf_4 T Q (m + 1) M (nI p) (nI (fb_sm (fun d => na A 9 (6 * p + d)) i)) (nI i) := by
    intro m
    induction m with
    | zero =>
      intro i hi
      have hi : i = nd A := by omega
      subst hi
      exact ⟨fun _ => q, fun e => absurd (by rw [e2]; exact nI_le (Nat.le_refl _) (by omega)) e⟩
    | succ m ih =>
      intro i hi
      refine ⟨fun e => absurd e (by rw [e2]; exact nI_ge (by omega) (by omega)), fun _ => ?_⟩
      have e9 : M (T + 9) (6 * p + i) = nI (na A 9 (6 * p + i)) := (hA.2 9 _ (rel_9 hp (by omega))).trans (V_9 hV hp (by omega)).1
      unfold w_X6_cellOf
      rw [cel]
      refine ⟨vp_in_nI (by omega) (by decide), fun v5 e5 v6 e6 => ?_⟩
      rw [ix_nat (by omega), e9, nI_add] at e5
      rw [e5, e6, nI_1]
      have h := ih (i + 1) (by omega)
      rw [fb_sm_succ] at h
      exact h
  exact ⟨nd A + 1, go (nd A) 0 (by omega)⟩
theorem W9_tsum6 (hB : RM M 0 A) (hV : V A) (hp : p < 6) (q : Q (nI (fb_sm (fun d => if p < np A ∧ d < nd A then na A 9 (6 * p + d) else 0) 6)) M) : w_X9_allTimes M (nI p) Q := by
  have go : ∀ m i : Nat, i + m = 6 → wL_X9_allTimes_4 Q (m + 1) M (nI p) (nI (fb_sm (fun d => if p < np A ∧ d < nd A then na A 9 (6 * p + d) else 0) i)) (nI i) := by
    intro m
    induction m with
    | zero =>
      intro i hi
      have hi : i = 6 := by omega
      subst hi
      exact ⟨fun _ => q, fun e => absurd (nI_le (a := 6) (b := 6) (by omega) (by decide)) e⟩
    | succ m ih =>
      intro i hi
      refine ⟨fun e => absurd e (nI_ge (a := i) (b := 6) (by omega) (by decide)), fun _ => ?_⟩
      refine W9_times (B := 0) (by decide) hp (by omega) (fun v5 e5 v6 e6 => ?_)
      have e9 : M 86 (0 + 54 + 6 * p + i) = nI (if p < np A ∧ i < nd A then na A 9 (6 * p + i) else 0) := by
        by_cases hh : p < np A ∧ i < nd A
        · rw [if_pos hh, RM_9 hB hh.1 hh.2, (V_9 hV hh.1 hh.2).1]
        · rw [if_neg hh]
          exact (hB.2.2 p i hp (by omega) hh).1
      rw [e9, nI_add] at e5
      rw [e5, e6, nI_1]
      have h := ih (i + 1) (by omega)
      rw [fb_sm_succ] at h
      exact h
  exact ⟨7, go 6 0 (by omega)⟩
theorem sm_cut (f : Nat → Nat) (n : Nat) : ∀ m, fb_sm (fun d => if d < n then f d else 0) (n + m) = fb_sm f n
  | 0 => fb_sm_cong (fun k hk => by rw [if_pos (by omega)])
  | m + 1 => by
    have ih := sm_cut f n m
    rw [Nat.add_succ, fb_sm_succ, ih, if_neg (by omega), Nat.add_zero]
theorem tsum6 (hV : V A) (hp : p < np A) : fb_sm (fun d => if p < np A ∧ d < nd A then na A 9 (6 * p + d) else 0) 6 = tsum A p := by
  have hm := (V_nd hV).2
  have h := sm_cut (fun d => na A 9 (6 * p + d)) (nd A) (6 - nd A)
  rw [show nd A + (6 - nd A) = 6 by omega] at h
  unfold tsum
  rw [← h]
  refine fb_sm_cong (fun k hk => ?_)
  by_cases hh : k < nd A
  · rw [if_pos ⟨hp, hh⟩, if_pos hh]
  · rw [if_neg (fun e => hh e.2), if_neg hh]
theorem W9_tsum (hB : RM M 0 A) (hV : V A) (hp : p < np A) (q : Q (nI (tsum A p)) M) : w_X9_allTimes M (nI p) Q := by
  have hn := (V_np hV).2
  refine W9_tsum6 hB hV (by omega) ?_
  rw [tsum6 hV hp]
  exact q
end TS
def vPerson (A : Tn) (p : Nat) (x : Int32) : Int32 := if x = 0 then A 4 p else if x = 1 then A 5 p else if x = 2 then A 6 p else if x = 3 then nI (tsum A p) else if x = 4 then A 7 p else if x = 5 then A 8 p else -1000001
theorem lin2 (k p : Nat) : nI k + nI p = nI (k + p) := nI_add k p
/-- what no reading call changes -/
def SScr (k j : Nat) : Prop := (29 ≤ k ∧ k ≤ 40) ∨ (52 ≤ k ∧ k ≤ 62) ∨ (k = 85 ∧ (12 ≤ j ∧ j ≤ 14 ∨ 16 ≤ j)) ∨ (k = 86 ∧ 3402 ≤ j)
theorem S_person (M : Mem) (a b : Int32) (A : Tn) (hC : RC M 41 A) (hM : RM M 0 A) (hV : V A) : w_X8_person M a b (fun r M1 => w_X9_person M1 a b (fun r2 M2 => r = r2 ∧ M2 = M)) := by
  have hn := (V_np hV).2
  unfold w_X8_person
  refine P8 hC hV (fun p hp e => cr1 ?_) (fun hne => cr0 ?_)
  · subst e
    have hin : vp_in (nI p) 6 := vp_in_nI (by omega) (by decide)
    have m9 : w_X9_person M (nI p) b (fun r2 M2 => vPerson A p b = r2 ∧ M2 = M) := by
      unfold w_X9_person
      refine P9 hM hV (fun p2 hp2 e => cr1 ?_) (fun h => absurd ⟨p, hp, rfl⟩ h)
      unfold vPerson
      have k4 : M 86 (24 + p) = A 4 p := RM0p hM hp (f := 4) (by decide) (by decide)
      have k5 : M 86 (30 + p) = A 5 p := RM0p hM hp (f := 5) (by decide) (by decide)
      have k6 : M 86 (36 + p) = A 6 p := RM0p hM hp (f := 6) (by decide) (by decide)
      have k7 : M 86 (42 + p) = A 7 p := RM0p hM hp (f := 7) (by decide) (by decide)
      have k8 : M 86 (48 + p) = A 8 p := RM0p hM hp (f := 8) (by decide) (by decide)
      simp only [forall_eq, show 24 + nI p = nI (24 + p) from lin2 24 p, show 30 + nI p = nI (30 + p) from lin2 30 p, show 36 + nI p = nI (36 + p) from lin2 36 p, show 42 + nI p = nI (42 + p) from lin2 42 p, show 48 + nI p = nI (48 + p) from lin2 48 p, ix_nat (show 24 + p < 2 ^ 31 by omega), ix_nat (show 30 + p < 2 ^ 31 by omega), ix_nat (show 36 + p < 2 ^ 31 by omega), ix_nat (show 42 + p < 2 ^ 31 by omega), ix_nat (show 48 + p < 2 ^ 31 by omega), k4, k5, k6, k7, k8]
      refine ⟨fun z => ⟨vp_in_nI (by omega) (by decide), ?_, trivial⟩, fun z => ⟨vp_in_nI (by omega) (by decide), ?_, trivial⟩, fun z => ⟨vp_in_nI (by omega) (by decide), ?_, trivial⟩, fun z => W9_tsum hM hV hp ⟨?_, rfl⟩, fun z => ⟨vp_in_nI (by omega) (by decide), ?_, trivial⟩, fun z => ⟨vp_in_nI (by omega) (by decide), ?_, trivial⟩, fun z0 z1 z2 z3 z4 z5 => ⟨?_, trivial⟩⟩
      · subst z; rfl
      · subst z; rfl
      · subst z; rfl
      · subst z; rfl
      · subst z; rfl
      · subst z; rfl
      · rw [if_neg z0, if_neg z1, if_neg z2, if_neg z3, if_neg z4, if_neg z5]
    have e4 : M (41 + 4) p = A 4 p := hC.2 4 _ (rel_p (by decide) (by decide) hp)
    have e5 : M (41 + 5) p = A 5 p := hC.2 5 _ (rel_p (by decide) (by decide) hp)
    have e6 : M (41 + 6) p = A 6 p := hC.2 6 _ (rel_p (by decide) (by decide) hp)
    have e7 : M (41 + 7) p = A 7 p := hC.2 7 _ (rel_p (by decide) (by decide) hp)
    have e8 : M (41 + 8) p = A 8 p := hC.2 8 _ (rel_p (by decide) (by decide) hp)
    rw [ix_nat (by omega), e4, e5, e6, e7, e8]
    refine ⟨fun z => ⟨hin, ?_⟩, fun z => ⟨hin, ?_⟩, fun z => ⟨hin, ?_⟩, fun z => W6_tsum hC hV hp ?_, fun z => ⟨hin, ?_⟩, fun z => ⟨hin, ?_⟩, fun z0 z1 z2 z3 z4 z5 => ?_⟩
    · subst z; exact m9
    · subst z; exact m9
    · subst z; exact m9
    · subst z; exact m9
    · subst z; exact m9
    · subst z; exact m9
    · unfold vPerson at m9
      rw [if_neg z0, if_neg z1, if_neg z2, if_neg z3, if_neg z4, if_neg z5] at m9
      exact m9
  · unfold w_X9_person
    exact P9 hM hV (fun p hp e => absurd ⟨p, hp, e⟩ hne) (fun _ => cr0 ⟨rfl, rfl⟩)
/-- who has gone through d -/
def gonem (A : Tn) (d : Nat) : Nat → Int32
  | 0 => 0
  | n + 1 => if na A 9 (6 * n + d) = 0 then gonem A d n else gonem A d n ||| (1 <<< (nI n &&& 31))
section DR
variable {M : Mem} {T : Nat} {A : Tn} {p d c : Nat} {Q : Int32 → Mem → Prop}
theorem W6_gone (hA : RC M T A) (hV : V A) (hd : d < nd A) (q : Q (gonem A d (np A)) M) : w_X6_passedThrough T M (nI d) Q := by
  have hn := (V_np hV).2
  have hm := (V_nd hV).2
  have e3 : M T 3 = nI (np A) := (hA.1 3 (by decide)).trans (V_np hV).1
  have go : ∀ m i : Nat, i + m = np A → wL_X6_passedThrough_4 T Q (m + 1) M (nI d) (gonem A d i) (nI i) := by
    intro m
    induction m with
    | zero =>
      intro i hi
      have hi : i = np A := by omega
      subst hi
      exact ⟨fun _ => q, fun e => absurd (by rw [e3]; exact nI_le (Nat.le_refl _) (by omega)) e⟩
    | succ m ih =>
      intro i hi
      refine ⟨fun e => absurd e (by rw [e3]; exact nI_ge (by omega) (by omega)), fun _ => ?_⟩
      have e9 : M (T + 9) (6 * i + d) = nI (na A 9 (6 * i + d)) := (hA.2 9 _ (rel_9 (by omega) hd)).trans (V_9 hV (by omega) hd).1
      have l9 := (V_9 hV (show i < np A by omega) hd).2
      have h := ih (i + 1) (by omega)
      unfold w_X6_cellOf
      rw [cel]
      refine ⟨vp_in_nI (by omega) (by decide), ?_⟩
      rw [ix_nat (by omega), e9, nI_z (by omega)]
      unfold gonem at h
      refine ⟨fun z v6 e6 => ?_, fun z v7 e7 v8 e8 => ?_⟩
      · rw [if_pos z] at h
        rw [e6, nI_1]; exact h
      · rw [if_neg z] at h
        rw [e7, e8, nI_1]; exact h
  exact ⟨np A + 1, go (np A) 0 (by omega)⟩
theorem W9_gone (hB : RM M 0 A) (hV : V A) (hd : d < nd A) (q : Q (gonem A d (np A)) M) : w_X9_gone M (nI d) Q := by
  have hn := (V_np hV).2
  have hm := (V_nd hV).2
  have e3 : M 86 3 = nI (np A) := (RM0 hB (j := 3) (by decide)).trans (V_np hV).1
  have go : ∀ m i : Nat, i + m = np A → wL_X9_gone_4 Q (m + 1) M (nI d) (gonem A d i) (nI i) := by
    intro m
    induction m with
    | zero =>
      intro i hi
      have hi : i = np A := by omega
      subst hi
      exact ⟨fun _ => q, fun e => absurd (by rw [e3]; exact nI_le (Nat.le_refl _) (by omega)) e⟩
    | succ m ih =>
      intro i hi
      refine ⟨fun e => absurd e (by rw [e3]; exact nI_ge (by omega) (by omega)), fun _ => ?_⟩
      have l9 := V_9 hV (show i < np A by omega) hd
      have h := ih (i + 1) (by omega)
      refine W9_times (B := 0) (by decide) (by omega) (by omega) ?_
      rw [RM_9 hB (by omega) hd, l9.1, nI_le0 (by omega)]
      unfold gonem at h
      refine ⟨fun z v5 e5 v6 e6 => ?_, fun z v7 e7 v8 e8 => ?_⟩
      · rw [if_pos z] at h
        rw [e5, e6, nI_1, Int32.or_zero]; exact h
      · rw [if_neg z] at h
        rw [e7, e8, nI_1]; exact h
  exact ⟨np A + 1, go (np A) 0 (by omega)⟩
theorem W9_end {w : Nat} {B : Nat} (hB : RM M B A) (hB2 : B ≤ 3402) (hV : V A) (hd : d < nd A) (hw : w = 0 ∨ w = 1) (q : Q (A (1 + w) d) M) : w_X9_endOf M (nI B) (nI d) (nI w) Q := by
  have hm := (V_nd hV).2
  unfold w_X9_endOf
  rw [show nI B + 6 + 2 * nI d + nI w = nI (B + 6 + 2 * d + w) from by rw [show (2 : Int32) = nI 2 from rfl, show (6 : Int32) = nI 6 from rfl, pk_mul, nI_add, nI_add, nI_add]]
  intro v1 e1
  rw [e1, ix_nat (by omega)]
  refine ⟨vp_in_nI (by omega) (by decide), ?_⟩
  have h := hB.2.1 (1 + w) d (rel_d (by omega) (by omega) hd)
  have e : B + mo (1 + w) d = B + 6 + 2 * d + w := by
    rcases hw with rfl | rfl
    · show B + (6 + 2 * d) = _; omega
    · show B + (7 + 2 * d) = _; omega
  rw [e] at h
  rw [h]
  exact q
end DR
def vDoor (A : Tn) (d : Nat) (x : Int32) : Int32 := if x = 0 then A 1 d else if x = 1 then A 2 d else if x = 2 then gonem A d (np A) else -1000001
theorem S_door (M : Mem) (a b : Int32) (A : Tn) (hC : RC M 41 A) (hM : RM M 0 A) (hV : V A) : w_X8_door M a b (fun r M1 => w_X9_door M1 a b (fun r2 M2 => r = r2 ∧ M2 = M)) := by
  have hm := (V_nd hV).2
  unfold w_X8_door
  refine D8 hC hV (fun p hp e => cr1 ?_) (fun hne => cr0 ?_)
  · subst e
    have hin : vp_in (nI p) 6 := vp_in_nI (by omega) (by decide)
    have m9 : w_X9_door M (nI p) b (fun r2 M2 => vDoor A p b = r2 ∧ M2 = M) := by
      unfold w_X9_door
      refine D9 hM hV (fun p2 hp2 e => cr1 ?_) (fun h => absurd ⟨p, hp, rfl⟩ h)
      unfold vDoor
      refine ⟨fun z => ?_, fun z => ⟨fun z1 => ⟨fun z2 => ⟨?_, rfl⟩, fun z2 => ?_⟩, fun z1 => ?_⟩⟩
      · subst z; exact W9_end (B := 0) (w := 0) hM (by decide) hV hp (Or.inl rfl) ⟨rfl, rfl⟩
      · rw [if_neg z, if_neg z1, if_neg z2]
      · subst z2; exact W9_gone hM hV hp ⟨rfl, rfl⟩
      · subst z1; exact W9_end (B := 0) (w := 1) hM (by decide) hV hp (Or.inr rfl) ⟨rfl, rfl⟩
    have e1 : M (41 + 1) p = A 1 p := hC.2 1 _ (rel_d (by decide) (by decide) hp)
    have e2 : M (41 + 2) p = A 2 p := hC.2 2 _ (rel_d (by decide) (by decide) hp)
    rw [ix_nat (by omega), e1, e2]
    refine ⟨fun z => ⟨hin, ?_⟩, fun z => ⟨hin, ?_⟩, fun z => W6_gone hC hV hp ?_, fun z0 z1 z2 => ?_⟩
    · subst z; exact m9
    · subst z; exact m9
    · subst z; exact m9
    · unfold vDoor at m9
      rw [if_neg z0, if_neg z1, if_neg z2] at m9
      exact m9
  · unfold w_X9_door
    exact D9 hM hV (fun p hp e => absurd ⟨p, hp, e⟩ hne) (fun _ => cr0 ⟨rfl, rfl⟩)
