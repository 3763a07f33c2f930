theorem i10 : ((1 : Int32) = 0) = False := by decide
theorem ix_iff8 {x : Int32} : (0 ≤ x ∧ x < 8) ↔ isIx x 8 := isIx_iff (n := 8) (by decide)
theorem W8w8 {M : Mem} {x : Int32} {Q : Int32 → Mem → Prop} : w_X8_within M x 8 Q = Q (bI (isIx x 8)) M := propext (W8_ix (n := 8) (by decide))
theorem W8w3 {M : Mem} {x : Int32} {Q : Int32 → Mem → Prop} : w_X8_within M x 3 Q = Q (bI (isIx x 3)) M := propext (W8_ix (n := 3) (by decide))
theorem W8w2 {M : Mem} {x : Int32} {Q : Int32 → Mem → Prop} : w_X8_within M x 2 Q = Q (bI (isIx x 2)) M := propext (W8_ix (n := 2) (by decide))
theorem W8w6 {M : Mem} {x : Int32} {Q : Int32 → Mem → Prop} : w_X8_within M x 6 Q = Q (bI (isIx x 6)) M := propext (W8_ix (n := 6) (by decide))
theorem W8w11 {M : Mem} {x : Int32} {Q : Int32 → Mem → Prop} : w_X8_within M x 11 Q = Q (bI (isIx x 11)) M := propext (W8_ix (n := 11) (by decide))
theorem W8w61 {M : Mem} {x : Int32} {Q : Int32 → Mem → Prop} : w_X8_within M x 61 Q = Q (bI (isIx x 61)) M := propext (W8_ix (n := 61) (by decide))
theorem W8w256 {M : Mem} {x : Int32} {Q : Int32 → Mem → Prop} : w_X8_within M x 256 Q = Q (bI (isIx x 256)) M := propext (W8_ix (n := 256) (by decide))
theorem W9i2 {M : Mem} {x : Int32} {Q : Int32 → Mem → Prop} : w_X9_in M x.toInt64 0 2 Q = Q (bI (isIx x 3)) M := propext (W9_ix (n := 3) (by decide) (by decide) (by decide))
theorem W9i1 {M : Mem} {x : Int32} {Q : Int32 → Mem → Prop} : w_X9_in M x.toInt64 0 1 Q = Q (bI (isIx x 2)) M := propext (W9_ix (n := 2) (by decide) (by decide) (by decide))
theorem W9i5 {M : Mem} {x : Int32} {Q : Int32 → Mem → Prop} : w_X9_in M x.toInt64 0 5 Q = Q (bI (isIx x 6)) M := propext (W9_ix (n := 6) (by decide) (by decide) (by decide))
theorem W9i10 {M : Mem} {x : Int32} {Q : Int32 → Mem → Prop} : w_X9_in M x.toInt64 0 10 Q = Q (bI (isIx x 11)) M := propext (W9_ix (n := 11) (by decide) (by decide) (by decide))
theorem W9i60 {M : Mem} {x : Int32} {Q : Int32 → Mem → Prop} : w_X9_in M x.toInt64 0 60 Q = Q (bI (isIx x 61)) M := propext (W9_ix (n := 61) (by decide) (by decide) (by decide))
theorem W9i255 {M : Mem} {x : Int32} {Q : Int32 → Mem → Prop} : w_X9_in M x.toInt64 0 255 Q = Q (bI (isIx x 256)) M := propext (W9_ix (n := 256) (by decide) (by decide) (by decide))
theorem W9ir {M : Mem} {x : Int32} {Q : Int32 → Mem → Prop} : w_X9_isRow M x Q = Q (bI (isIx x 8)) M := propext W9_isRow
theorem W8fi {M : Mem} {v : Int32} {Q : Int32 → Mem → Prop} : w_X8_finding M v Q = Q (-1000010 - v) (ms M 0 11 v) := propext W8_finding
theorem W8un {M : Mem} {v : Int32} {Q : Int32 → Mem → Prop} : w_X8_unfound M v Q = Q v (ms M 0 11 0) := propext W8_unfound
theorem W9fi {M : Mem} {v : Int32} {Q : Int32 → Mem → Prop} : w_X9_find M v Q = Q (-1000010 - v) (ms M 85 9 v) := propext W9_find
theorem W9we {M : Mem} {v : Int32} {Q : Int32 → Mem → Prop} : w_X9_well M v Q = Q v (ms M 85 9 0) := propext W9_well
theorem W4mi {k : Nat} {M : Mem} {Q : Int32 → Mem → Prop} : w_X4_isMissing k M Q = Q (bI (M k 1 = -1)) M := propext W4_miss
theorem lin40 (r i : Nat) : 40 * nI r + nI i = nI (40 * r + i) := by
  rw [show (40 : Int32) = nI 40 from rfl, pk_mul, nI_add]
/-- zeroes in the reference's items from 40 r on -/
def zeroI (M : Mem) (r i : Nat) : Mem := va_up M 90 (fun j => if 40 * r ≤ j ∧ j < 40 * r + i then 0 else M 90 j)
theorem zeroI_0 (M : Mem) (r : Nat) : zeroI M r 0 = M := by
  funext a
  by_cases e : a = 90
  · subst e; unfold zeroI; rw [va_up_self]; funext b; rw [if_neg (by omega)]
  · unfold zeroI; rw [va_up_ne _ _ e]
theorem zeroI_app (M : Mem) (r i a b : Nat) : zeroI M r i a b = if a = 90 ∧ 40 * r ≤ b ∧ b < 40 * r + i then 0 else M a b := by
  unfold zeroI
  by_cases e : a = 90
  · subst e
    rw [va_up_self]
    by_cases h : 40 * r ≤ b ∧ b < 40 * r + i
    · rw [if_pos h, if_pos ⟨rfl, h⟩]
    · rw [if_neg h, if_neg (fun z => h z.2)]
  · rw [va_up_ne _ _ e, if_neg (fun z => e z.1)]
theorem fillM_app (M : Mem) (k i : Nat) (v : Int32) (a b : Nat) : fillM M k i v a b = if a = k ∧ b < i then v else M a b := by
  unfold fillM
  by_cases e : a = k
  · subst e
    rw [va_up_self]
    by_cases h : b < i
    · rw [if_pos h, if_pos ⟨rfl, h⟩]
    · rw [if_neg h, if_neg (fun z => h z.2)]
  · rw [va_up_ne _ _ e, if_neg (fun z => e z.1)]
theorem mcp_app (M : Mem) (k0 k1 sp dp n a b : Nat) : mcp M k0 k1 sp dp n a b = if a = k1 ∧ dp ≤ b ∧ b < dp + n then M k0 (sp + (b - dp)) else M a b := by
  by_cases e : a = k1
  · subst e
    rw [mcp_at]
    unfold va_cpy
    by_cases h : dp ≤ b ∧ b < dp + n
    · rw [if_pos h, if_pos ⟨rfl, h⟩]
    · rw [if_neg h, if_neg (fun z => h z.2)]
  · rw [mcp_ne e, if_neg (fun z => e z.1)]
theorem zeroI_s (M : Mem) (r i : Nat) : ms (zeroI M r i) 90 (40 * r + i) 0 = zeroI M r (i + 1) := by
  funext a b
  rw [ms_app, zeroI_app, zeroI_app]
  by_cases h : a = 90 ∧ b = 40 * r + i
  · rw [if_pos h, if_pos (by omega)]
  · rw [if_neg h]
    by_cases h2 : a = 90 ∧ 40 * r ≤ b ∧ b < 40 * r + i
    · rw [if_pos h2, if_pos (by omega)]
    · rw [if_neg h2, if_neg (by omega)]
theorem row9_loop {M : Mem} {r : Nat} {c : Int32} {Q : Int32 → Mem → Prop} (hr : r < 8) (hQ : Q c (ms (zeroI M r 40) 85 9 0)) : ∀ m i : Nat, i + m = 40 → wL_X9_row_55 Q (m + 1) (zeroI M r i) (nI r) c (nI i) := by
  intro m
  induction m with
  | zero =>
    intro i hi
    refine ⟨fun _ => ?_, fun h => absurd (nI_le (by omega : 40 ≤ i) (by omega)) h⟩
    rw [W9we, show i = 40 by omega]; exact hQ
  | succ m ih =>
    intro i hi
    refine ⟨fun h => absurd h (nI_ge (a := i) (b := 40) (by omega) (by decide)), fun _ => ?_⟩
    rw [lin40]
    refine ⟨vp_in_nI (by omega) (by omega), fun M3 e3 v4 e4 => ?_⟩
    rw [ix_nat (by omega), zeroI_s] at e3
    rw [e3, e4, nI_1]
    exact ih (i + 1) (by omega)
theorem IRow_one {M M2 : Mem} {r : Nat} (h : IRow M) (ho : ∀ q, q < 8 → q ≠ r → M2 (3 + 2 * q) 1 = M (3 + 2 * q) 1 ∧ M2 (3 + 2 * q) 2 = M (3 + 2 * q) 2 ∧ M2 88 q = M 88 q ∧ M2 89 q = M 89 q ∧ ∀ i, i < 40 → M2 (3 + 2 * q + 1) i = M (3 + 2 * q + 1) i ∧ M2 90 (40 * q + i) = M 90 (40 * q + i))
    (hn : (M2 (3 + 2 * r) 1 = -1 ∧ M2 89 r = -1) ∨ ∃ l z : Nat, l < 3 ∧ z ≤ 40 ∧ M2 (3 + 2 * r) 1 = nI l ∧ M2 88 r = nI l ∧ M2 (3 + 2 * r) 2 = nI z ∧ M2 89 r = nI z ∧ ∀ i, i < 40 → M2 (3 + 2 * r + 1) i = M2 90 (40 * r + i)) : IRow M2 := by
  intro q hq
  by_cases e : q = r
  · rw [e]; exact hn
  · obtain ⟨a1, a2, a3, a4, a5⟩ := ho q hq e
    rw [a1, a2, a3, a4]
    rcases h q hq with z | ⟨l, z, h1, h2, h3, h4, h5, h6, h7⟩
    · exact Or.inl z
    · exact Or.inr ⟨l, z, h1, h2, h3, h4, h5, h6, fun i hi => by rw [(a5 i hi).1, (a5 i hi).2]; exact h7 i hi⟩
theorem ln_row {r : Nat} (hr : r < 8) : ln (3 + 2 * r + 1) = 40 := (alR1 (3 + 2 * r) (by omega) (by revert r; decide)).2
theorem S_row (M : Mem) (a b c : Int32) (h : IRow M) (hs : IStat M) : w_X8_row M a b c (fun r M1 => w_X9_row M1 a b c (fun r2 M2 => PRow M r r2 M2)) := by
  by_cases h1 : isIx a 8
  · by_cases h2 : isIx b 3
    · by_cases h3 : c ≤ 40
      · by_cases h4 : 0 ≤ c
        · simp only [w_X8_row, w_X9_row, W8w8, W8w3, W9ir, W9i2, bI_t h1, bI_t h2, h3, h4, i10, not_true_eq_false, not_false_eq_true, false_implies, true_implies, and_true, true_and, forall_eq, W8un]
          obtain ⟨r, hr, rfl⟩ := h1
          obtain ⟨l, hl, rfl⟩ := h2
          obtain ⟨n, hn0, rfl⟩ := nI_of (Int32.not_lt.mpr h4)
          have hn : n ≤ 40 := (nI_leI hn0 (by decide)).mp h3
          rw [ix_nat (by omega)]
          refine ⟨vp_in_nI hr (by decide), ?_⟩
          intro M1 e1 M2 e2
          refine W_fill (by rw [ln_row hr]; decide) ?_
          refine ⟨vp_in_nI hr (by decide), vp_in_nI hr (by decide), 41, ?_⟩
          have e0 := row9_loop (M := ms (ms (ms (fillM M2 (3 + 2 * r + 1) (ln (3 + 2 * r + 1)) 0) 0 11 0) 88 r (nI l)) 89 r (nI n)) (r := r) (c := nI n) (Q := fun r2 M2 => PRow M (nI n) r2 M2) hr ?_ 40 0 (by omega)
          · rw [zeroI_0] at e0
            exact e0
          · refine ⟨rfl, IRow_one (r := r) h ?_ (Or.inr ⟨l, n, hl, hn, ?_, ?_, ?_, ?_, ?_⟩), ?_, ?_⟩
            · intro q hq hne
              subst e2 e1
              simp only [ms_app, fillM_app, zeroI_app, ln_row hr, and_self, and_true, true_and, ite_true]
              refine ⟨?_, ?_, ?_, ?_, fun i hi => ⟨?_, ?_⟩⟩ <;> (repeat (first | rw [if_pos (by omega)] | rw [if_neg (by omega)]))
            · subst e2 e1
              simp only [ms_app, fillM_app, zeroI_app, ln_row hr, and_self, and_true, true_and, ite_true]
              repeat (first | rw [if_pos (by omega)] | rw [if_neg (by omega)])
            · subst e2 e1
              simp only [ms_app, fillM_app, zeroI_app, ln_row hr, and_self, and_true, true_and, ite_true]
              repeat (first | rw [if_pos (by omega)] | rw [if_neg (by omega)])
            · subst e2 e1
              simp only [ms_app, fillM_app, zeroI_app, ln_row hr, and_self, and_true, true_and, ite_true]
              repeat (first | rw [if_pos (by omega)] | rw [if_neg (by omega)])
            · subst e2 e1
              simp only [ms_app, fillM_app, zeroI_app, ln_row hr, and_self, and_true, true_and, ite_true]
              repeat (first | rw [if_pos (by omega)] | rw [if_neg (by omega)])
            · intro i hi
              subst e2 e1
              simp only [ms_app, fillM_app, zeroI_app, ln_row hr, and_self, and_true, true_and, ite_true]
              repeat (first | rw [if_pos (by omega)] | rw [if_neg (by omega)])
            · subst e2 e1
              unfold IStat
              simp only [ms_app, fillM_app, zeroI_app, ln_row hr, and_self, and_true, true_and, ite_true]
              repeat (first | rw [if_pos (by omega)] | rw [if_neg (by omega)])
            · subst e2 e1
              intro a b hn
              have := hn
              unfold SRow at this
              simp only [ms_app, fillM_app, zeroI_app, ln_row hr, and_self, and_true, true_and, ite_true]
              repeat (first | rw [if_pos (by omega)] | rw [if_neg (by omega)])
        · simp only [w_X8_row, w_X9_row, W8w8, W8w3, W9ir, W9i2, bI_t h1, bI_t h2, h3, h4, i10, not_true_eq_false, not_false_eq_true, false_implies, true_implies, and_true, true_and, forall_eq, W8fi, W9fi]
          exact fnd2 h 4
      · simp only [w_X8_row, w_X9_row, W8w8, W8w3, W9ir, W9i2, bI_t h1, bI_t h2, h3, i10, not_true_eq_false, not_false_eq_true, false_implies, true_implies, and_true, true_and, forall_eq]
        exact bad2 h hs _
    · simp only [w_X8_row, w_X9_row, W8w8, W8w3, W9ir, W9i2, bI_t h1, bI_f h2, i10, not_true_eq_false, not_false_eq_true, false_implies, true_implies, and_true, true_and, forall_eq]
      exact bad2 h hs _
  · simp only [w_X8_row, w_X9_row, W8w8, W8w3, W9ir, W9i2, bI_f h1, i10, not_true_eq_false, not_false_eq_true, false_implies, true_implies, and_true, true_and, forall_eq]
    exact bad2 h hs _
