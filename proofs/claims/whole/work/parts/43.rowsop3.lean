theorem nI_m1 {l : Nat} (h : l < 3) : ¬ nI l = -1 := by
  intro e
  have h1 := congrArg Int32.toInt e
  rw [nI_toInt (by omega), show (-1 : Int32).toInt = -1 from by decide] at h1
  omega
theorem nI_nlt0 {n : Nat} (h : n < 2 ^ 31) : ¬ nI n < 0 := nI_pos h
theorem m1_lt0 : (-1 : Int32) < 0 := by decide
theorem nge0 : ¬ (0 : Int32) ≤ -1 := by decide
theorem ix_m1 {x : Int32} {z : Nat} (hz : z < 2 ^ 31) : (0 ≤ x ∧ x ≤ nI z - 1) ↔ isIx x z := by
  rw [← isIx_iff hz, fa_le, fa_le, fa_lt, nI_toInt hz]
  have : (nI z - 1).toInt = (z : Int) - 1 := by
    rw [fb_subI, nI_toInt hz]
    · rfl
    · rw [nI_toInt hz]; show -2147483648 ≤ (z : Int) - 1; omega
    · rw [nI_toInt hz]; show (z : Int) - 1 < 2147483648; omega
  rw [this]
  omega
/-- what is kept of a number in a lane -/
def nar (l : Nat) (v : Int32) : Int32 := if l = 0 then v.toInt8.toInt32 else if l = 1 then v.toInt16.toInt32 else v
theorem nI_l0 {l : Nat} (h : l < 3) : (nI l = 0) ↔ l = 0 := nI_eq (b := 0) (by omega) (by decide)
theorem nI_l1 {l : Nat} (h : l < 3) : (nI l = 1) ↔ l = 1 := nI_eq (b := 1) (by omega) (by decide)
theorem W4_put {k : Nat} {M : Mem} {i l : Nat} {v : Int32} {Q : Int32 → Mem → Prop} (hl : l < 3) (h1 : M k 1 = nI l) (hi : i < 40) (q : Q (nar l v) (ms M (k + 1) i (nar l v))) : w_X4_put k M (nI i) v Q := by
  unfold w_X4_put
  rw [h1, ix_nat (by omega)]
  have hin := vp_in_nI hi (N := 40) (by decide)
  unfold nar at q
  refine ⟨fun e => ⟨fun e2 => ⟨hin, fun M4 e4 => ⟨hin, ?_⟩⟩, fun e2 v6 e6 => ⟨hin, fun M4 e4 => ⟨hin, ?_⟩⟩⟩, fun e v6 e6 => ⟨hin, fun M4 e4 => ⟨hin, ?_⟩⟩⟩
  · rw [nI_l0 hl] at e
    rw [nI_l1 hl] at e2
    rw [if_neg e, if_neg e2] at q
    rw [e4, ms_eq]
    exact q
  · rw [nI_l0 hl] at e
    rw [nI_l1 hl] at e2
    rw [if_neg e, if_pos e2] at q
    rw [e4, ms_eq, e6]
    exact q
  · rw [nI_l0 hl] at e
    rw [if_pos e] at q
    rw [e4, ms_eq, e6]
    exact q
theorem W9_narrow {M : Mem} {l : Nat} {v : Int32} {Q : Int32 → Mem → Prop} (hl : l < 3) (q : Q (nar l v) M) : w_X9_narrow M v (nI l) Q := by
  unfold w_X9_narrow
  unfold nar at q
  rw [nI_l0 hl, nI_l1 hl]
  refine ⟨fun e => ⟨fun e2 => ?_, fun e2 => ?_⟩, fun e => ?_⟩
  · rw [if_neg e, if_neg e2] at q; exact q
  · rw [if_neg e, if_pos e2] at q; exact q
  · rw [if_pos e] at q; exact q
theorem S_set (M : Mem) (a b c : Int32) (h : IRow M) (hs : IStat M) : w_X8_set M a b c (fun r M1 => w_X9_set M1 a b c (fun r2 M2 => PRow M r r2 M2)) := by
  by_cases h1 : isIx a 8
  · simp only [w_X8_set, W8w8, bI_t h1, i10, not_true_eq_false, not_false_eq_true, false_implies, true_implies, and_true, true_and]
    obtain ⟨r, hr, rfl⟩ := h1
    have h1 : isIx (nI r) 8 := ⟨r, hr, rfl⟩
    rw [ix_nat (by omega)]
    refine ⟨vp_in_nI hr (by decide), ?_⟩
    rcases h r hr with ⟨m1, m2⟩ | ⟨l, z, g1, g2, g3, g4, g5, g6, g7⟩
    · refine W4_find1 m1 ⟨fun e => absurd e (by decide), fun _ => ?_⟩
      simp only [W8fi, w_X9_set, W9ir, bI_t h1, ix_nat (show r < 2 ^ 31 by omega), i10, not_true_eq_false, not_false_eq_true, false_implies, true_implies, and_true, true_and, W9fi]
      refine ⟨vp_in_nI hr (by decide), ?_, fun _ => fnd2 h 1⟩
      rw [ms_ne (by decide), m2]
      exact fun e => absurd e nge0
    · refine W4_find (sz := z) (by rw [g3]; exact nI_m1 g1) g5 g2 (fun sp => ⟨fun _ => ⟨vp_in_nI hr (by decide), ?_⟩, fun e => absurd rfl e⟩) (fun sp => ⟨fun e => absurd e (by decide), fun _ => ?_⟩)
      · rw [span1 g2] at sp
        have sp0 := sp
        obtain ⟨i, hi, rfl⟩ := sp
        refine W4_put g1 g3 (by omega) ?_
        simp only [W8un, w_X9_set, W9ir, bI_t h1, ix_nat (show r < 2 ^ 31 by omega), i10, not_true_eq_false, not_false_eq_true, false_implies, true_implies, and_true, true_and, W9fi, forall_eq]
        have e89 : ms (ms M (3 + 2 * r + 1) i (nar l c)) 0 11 0 89 r = nI z := by
          rw [ms_ne (by decide), ms_ne (by omega), g6]
        have e88 : ms (ms M (3 + 2 * r + 1) i (nar l c)) 0 11 0 88 r = nI l := by
          rw [ms_ne (by decide), ms_ne (by omega), g4]
        rw [e89]
        refine ⟨vp_in_nI hr (by decide), fun _ => ⟨vp_in_nI hr (by decide), ?_⟩, fun e => absurd (nI_pos' (by omega)) e⟩
        rw [show (0 : Int64) = (0 : Int32).toInt64 from by decide, W9_inI, bI_t ((ix_m1 (by omega)).mpr sp0)]
        refine ⟨fun _ => ⟨vp_in_nI hr (by decide), ?_⟩, fun e => absurd e (by decide)⟩
        rw [e88]
        refine W9_narrow g1 ?_
        rw [lin40]
        refine ⟨vp_in_nI (by omega) (by decide), vp_in_nI (by omega) (by decide), ?_⟩
        rw [ix_nat (by omega), W9we, ms_eq]
        refine ⟨rfl, IRow_one (r := r) h ?_ (Or.inr ⟨l, z, g1, g2, ?_, ?_, ?_, ?_, ?_⟩), ?_, ?_⟩
        · intro q hq hne
          simp only [ms_app, and_self, and_true, true_and, ite_true]
          refine ⟨?_, ?_, ?_, ?_, fun i hi => ⟨?_, ?_⟩⟩ <;> (repeat (first | rw [if_pos (by omega)] | rw [if_neg (by omega)]))
        · simp only [ms_app, and_self, and_true, true_and, ite_true]
          repeat (first | rw [if_pos (by omega)] | rw [if_neg (by omega)])
          exact g3
        · simp only [ms_app, and_self, and_true, true_and, ite_true]
          repeat (first | rw [if_pos (by omega)] | rw [if_neg (by omega)])
          exact g4
        · simp only [ms_app, and_self, and_true, true_and, ite_true]
          repeat (first | rw [if_pos (by omega)] | rw [if_neg (by omega)])
          exact g5
        · simp only [ms_app, and_self, and_true, true_and, ite_true]
          repeat (first | rw [if_pos (by omega)] | rw [if_neg (by omega)])
          exact g6
        · intro j hj
          by_cases e : j = i
          · subst e
            simp only [ms_app, and_self, and_true, true_and, ite_true]
            repeat (first | rw [if_pos (by omega)] | rw [if_neg (by omega)])
          · simp only [ms_app, and_self, and_true, true_and, ite_true]
            repeat (first | rw [if_pos (by omega)] | rw [if_neg (by omega)])
            exact g7 j hj
        · unfold IStat
          simp only [ms_app, and_self, and_true, true_and, ite_true]
          repeat (first | rw [if_pos (by omega)] | rw [if_neg (by omega)])
        · intro a b hn
          have := hn
          unfold SRow at this
          simp only [ms_app, and_self, and_true, true_and, ite_true]
          repeat (first | rw [if_pos (by omega)] | rw [if_neg (by omega)])
      · rw [span1 g2] at sp
        simp only [W8fi, w_X9_set, W9ir, bI_t h1, ix_nat (show r < 2 ^ 31 by omega), i10, not_true_eq_false, not_false_eq_true, false_implies, true_implies, and_true, true_and, W9fi, forall_eq]
        have e89 : ms M 0 11 2 89 r = nI z := by rw [ms_ne (by decide), g6]
        rw [e89]
        refine ⟨vp_in_nI hr (by decide), fun _ => ⟨vp_in_nI hr (by decide), ?_⟩, fun e => absurd (nI_pos' (by omega)) e⟩
        rw [show (0 : Int64) = (0 : Int32).toInt64 from by decide, W9_inI, bI_f (fun e => sp ((ix_m1 (by omega)).mp e))]
        exact ⟨fun e => absurd rfl e, fun _ => fnd2 h 2⟩
  · simp only [w_X8_set, w_X9_set, W8w8, W9ir, bI_f h1, i10, not_true_eq_false, not_false_eq_true, false_implies, true_implies, and_true, true_and]
    exact bad2 h hs _
theorem S_drop (M : Mem) (a : Int32) (h : IRow M) (hs : IStat M) : w_X8_drop M a (fun r M1 => w_X9_drop M1 a (fun r2 M2 => PRow M r r2 M2)) := by
  by_cases h1 : isIx a 8
  · simp only [w_X8_drop, W8w8, bI_t h1, W4mi, i10, not_true_eq_false, not_false_eq_true, false_implies, true_implies, and_true, true_and]
    obtain ⟨r, hr, rfl⟩ := h1
    have h1 : isIx (nI r) 8 := ⟨r, hr, rfl⟩
    rw [ix_nat (by omega)]
    refine ⟨vp_in_nI hr (by decide), ?_⟩
    rcases h r hr with ⟨m1, m2⟩ | ⟨l, z, g1, g2, g3, g4, g5, g6, g7⟩
    · rw [bI_t m1]
      refine ⟨fun e => absurd e (by decide), fun _ => ?_⟩
      simp only [W8fi, w_X9_drop, W9ir, bI_t h1, ix_nat (show r < 2 ^ 31 by omega), i10, not_true_eq_false, not_false_eq_true, false_implies, true_implies, and_true, true_and, W9fi]
      refine ⟨vp_in_nI hr (by decide), ?_, fun _ => fnd2 h 1⟩
      rw [ms_ne (by decide), m2]
      exact fun e => absurd e nge0
    · rw [bI_f (by rw [g3]; exact nI_m1 g1)]
      refine ⟨fun _ => ⟨vp_in_nI hr (by decide), ?_⟩, fun e => absurd rfl e⟩
      simp only [w_X4_end, W8un, w_X9_drop, W9ir, bI_t h1, ix_nat (show r < 2 ^ 31 by omega), i10, not_true_eq_false, not_false_eq_true, false_implies, true_implies, and_true, true_and, W9fi, W9we, forall_eq]
      have e89 : ms (ms M (3 + 2 * r) 1 (-1)) 0 11 0 89 r = nI z := by rw [ms_ne (by decide), ms_ne (by omega), g6]
      rw [e89]
      refine ⟨vp_in_nI hr (by decide), fun _ => ⟨vp_in_nI hr (by decide), vp_in_nI hr (by decide), ?_⟩, fun e => absurd (nI_pos' (by omega)) e⟩
      refine ⟨?_, IRow_one (r := r) h ?_ (Or.inl ⟨?_, ?_⟩), ?_, ?_⟩
      · rw [ms_ne2 (by decide), g5]
      · intro q hq hne
        simp only [ms_app, and_self, and_true, true_and, ite_true]
        refine ⟨?_, ?_, ?_, ?_, fun i hi => ⟨?_, ?_⟩⟩ <;> (repeat (first | rw [if_pos (by omega)] | rw [if_neg (by omega)]))
      · simp only [ms_app, and_self, and_true, true_and, ite_true]
        repeat (first | rw [if_pos (by omega)] | rw [if_neg (by omega)])
      · simp only [ms_app, and_self, and_true, true_and, ite_true]
        repeat (first | rw [if_pos (by omega)] | rw [if_neg (by omega)])
      · unfold IStat
        simp only [ms_app, and_self, and_true, true_and, ite_true]
        repeat (first | rw [if_pos (by omega)] | rw [if_neg (by omega)])
      · intro a b hn
        have := hn
        unfold SRow at this
        simp only [ms_app, and_self, and_true, true_and, ite_true]
        repeat (first | rw [if_pos (by omega)] | rw [if_neg (by omega)])
  · simp only [w_X8_drop, w_X9_drop, W8w8, W9ir, bI_f h1, i10, not_true_eq_false, not_false_eq_true, false_implies, true_implies, and_true, true_and]
    exact bad2 h hs _
