/-- the reference's items while they are copied: from D + lo to D + hi they are those from S on -/
def cpI (M : Mem) (S D lo hi : Nat) : Mem := va_up M 90 (fun x => if D + lo ≤ x ∧ x < D + hi then M 90 (S + (x - D)) else M 90 x)
theorem cpI_app (M : Mem) (S D lo hi a b : Nat) : cpI M S D lo hi a b = if a = 90 ∧ D + lo ≤ b ∧ b < D + hi then M 90 (S + (b - D)) else M a b := by
  unfold cpI
  by_cases e : a = 90
  · subst e
    rw [va_up_self]
    by_cases h : D + lo ≤ b ∧ b < D + hi
    · rw [if_pos h, if_pos ⟨rfl, h⟩]
    · rw [if_neg h, if_neg (fun z => h z.2)]
  · rw [va_up_ne _ _ e, if_neg (fun z => e z.1)]
theorem cpI_0 (M : Mem) (S D lo : Nat) : cpI M S D lo lo = M := by
  funext a b
  rw [cpI_app, if_neg (by omega)]
theorem cpI_up (M : Mem) (S D hi : Nat) : ms (cpI M S D 0 hi) 90 (D + hi) (M 90 (S + hi)) = cpI M S D 0 (hi + 1) := by
  funext a b
  rw [ms_app, cpI_app, cpI_app]
  by_cases h : a = 90 ∧ b = D + hi
  · rw [if_pos h, if_pos (by omega), show b - D = hi by omega]
  · rw [if_neg h]
    by_cases h2 : a = 90 ∧ D + 0 ≤ b ∧ b < D + hi
    · rw [if_pos h2, if_pos (by omega)]
    · rw [if_neg h2, if_neg (by omega)]
theorem cpI_dn (M : Mem) (S D lo hi : Nat) (hl : lo < hi) : ms (cpI M S D (lo + 1) hi) 90 (D + lo) (M 90 (S + lo)) = cpI M S D lo hi := by
  funext a b
  rw [ms_app, cpI_app, cpI_app]
  by_cases h : a = 90 ∧ b = D + lo
  · rw [if_pos h, if_pos (by omega), show b - D = lo by omega]
  · rw [if_neg h]
    by_cases h2 : a = 90 ∧ D + (lo + 1) ≤ b ∧ b < D + hi
    · rw [if_pos h2, if_pos (by omega)]
    · rw [if_neg h2, if_neg (by omega)]
theorem lin40b (r i t : Nat) : 40 * nI r + nI i + nI t = nI (40 * r + i + t) := by rw [lin40, nI_add]
theorem copy_up {M : Mem} {a i b j n : Nat} {Q : Int32 → Mem → Prop} (ha : a < 8) (hb : b < 8) (hi : i + n ≤ 40) (hj : j + n ≤ 40) (hij : j ≤ i) (hQ : Q (nI n) (ms (cpI M (40 * a + i) (40 * b + j) 0 n) 85 9 0)) : ∀ m k : Nat, k + m = n → wL_X9_copy_107 Q (m + 1) (cpI M (40 * a + i) (40 * b + j) 0 k) (nI a) (nI i) (nI b) (nI j) (nI n) 0 (nI k) := by
  intro m
  induction m with
  | zero =>
    intro k hk
    refine ⟨fun _ => ?_, fun h => absurd (nI_le (by omega : n ≤ k) (by omega)) h⟩
    rw [W9we, show k = n by omega]; exact hQ
  | succ m ih =>
    intro k hk
    refine ⟨fun h => absurd h (nI_ge (by omega) (by omega)), fun _ => ⟨fun _ => ?_, fun e => absurd rfl e⟩⟩
    unfold wJ_X9_copy_131
    rw [lin40b, lin40b]
    intro v1 e1
    rw [e1, ix_nat (by omega), ix_nat (by omega)]
    refine ⟨vp_in_nI (by omega) (by decide), fun v3 e3 => ⟨vp_in_nI (by omega) (by decide), fun M5 e5 v6 e6 => ?_⟩⟩
    rw [cpI_app, if_neg (by omega)] at e3
    rw [e3, cpI_up] at e5
    rw [e5, e6, nI_1]
    exact ih (k + 1) (by omega)
theorem copy_dn {M : Mem} {a i b j n : Nat} {Q : Int32 → Mem → Prop} (ha : a < 8) (hb : b < 8) (hi : i + n ≤ 40) (hj : j + n ≤ 40) (hij : i < j) (hQ : Q (nI n) (ms (cpI M (40 * a + i) (40 * b + j) 0 n) 85 9 0)) : ∀ m k : Nat, k + m = n → wL_X9_copy_107 Q (m + 1) (cpI M (40 * a + i) (40 * b + j) m n) (nI a) (nI i) (nI b) (nI j) (nI n) 1 (nI k) := by
  intro m
  induction m with
  | zero =>
    intro k hk
    refine ⟨fun _ => ?_, fun h => absurd (nI_le (by omega : n ≤ k) (by omega)) h⟩
    rw [W9we]; exact hQ
  | succ m ih =>
    intro k hk
    refine ⟨fun h => absurd h (nI_ge (by omega) (by omega)), fun _ => ⟨fun e => absurd e (by decide), fun _ => ?_⟩⟩
    unfold wJ_X9_copy_131
    have es : nI n - 1 - nI k = nI m := by
      rw [show n = (n - 1) + 1 by omega, nI_pred, pk_sub (by omega), show n - 1 - k = m by omega]
    rw [es, lin40b, lin40b]
    intro v1 e1
    rw [e1, ix_nat (by omega), ix_nat (by omega)]
    refine ⟨vp_in_nI (by omega) (by decide), fun v3 e3 => ⟨vp_in_nI (by omega) (by decide), fun M5 e5 v6 e6 => ?_⟩⟩
    rw [cpI_app, if_neg (by omega)] at e3
    rw [e3, cpI_dn _ _ _ _ _ (by omega)] at e5
    rw [e5, e6, nI_1]
    exact ih (k + 1) (by omega)
theorem copy_9 {M : Mem} {a i b j n : Nat} {Q : Int32 → Mem → Prop} (ha : a < 8) (hb : b < 8) (hi : i + n ≤ 40) (hj : j + n ≤ 40) (hQ : Q (nI n) (ms (cpI M (40 * a + i) (40 * b + j) 0 n) 85 9 0)) : ((nI j ≤ nI i → wJ_X9_copy_102 Q M (nI a) (nI i) (nI b) (nI j) (nI n) 0) ∧ (¬ nI j ≤ nI i → wJ_X9_copy_102 Q M (nI a) (nI i) (nI b) (nI j) (nI n) 1)) := by
  refine ⟨fun e => ⟨n + 1, ?_⟩, fun e => ⟨n + 1, ?_⟩⟩
  · have h := copy_up (M := M) (Q := Q) ha hb hi hj ((nI_leI (by omega) (by omega)).mp e) hQ n 0 (by omega)
    rw [cpI_0] at h
    exact h
  · have hlt : i < j := by
      rcases Nat.lt_or_ge i j with z | z
      · exact z
      · exact absurd (nI_le z (by omega)) e
    have h := copy_dn (M := M) (Q := Q) ha hb hi hj hlt hQ n 0 (by omega)
    rw [cpI_0] at h
    exact h
theorem span_nat {x y : Int32} {z : Nat} (h : span x y z) (hz : z ≤ 40) : ∃ i n, x = nI i ∧ y = nI n ∧ i + n ≤ z := h
theorem S_copy (M : Mem) (a i b j n : Int32) (h : IRow M) (hs : IStat M) : w_X8_copy M a i b j n (fun r M1 => w_X9_copy M1 a i b j n (fun r2 M2 => PRow M r r2 M2)) := by
  by_cases h1 : isIx a 8
  · by_cases h2 : isIx b 8
    · simp only [w_X8_copy, W8w8, bI_t h1, bI_t h2, W4mi, i10, not_true_eq_false, not_false_eq_true, false_implies, true_implies, and_true, true_and]
      obtain ⟨a, ha, rfl⟩ := h1
      obtain ⟨b, hb, rfl⟩ := h2
      have h1 : isIx (nI a) 8 := ⟨a, ha, rfl⟩
      have h2 : isIx (nI b) 8 := ⟨b, hb, rfl⟩
      have ia := vp_in_nI ha (N := 8) (by decide)
      have ib := vp_in_nI hb (N := 8) (by decide)
      rw [ix_nat (by omega), ix_nat (by omega)]
      refine ⟨ia, ?_⟩
      rcases h a ha with ⟨m1, m2⟩ | ⟨l, z, g1, g2, g3, g4, g5, g6, g7⟩
      · rw [bI_t m1]
        refine ⟨fun _ => ?_, fun e => absurd e (by decide)⟩
        simp only [W8fi, w_X9_copy, W9ir, bI_t h1, bI_t h2, ix_nat (show a < 2 ^ 31 by omega), ix_nat (show b < 2 ^ 31 by omega), i10, not_true_eq_false, not_false_eq_true, false_implies, true_implies, and_true, true_and, W9fi]
        refine ⟨ia, fun _ => fnd2 h 1, ?_⟩
        rw [ms_ne (by decide), m2]
        exact fun e => absurd m1_lt0 e
      · rw [bI_f (by rw [g3]; exact nI_m1 g1)]
        refine ⟨fun e => absurd rfl e, fun _ => ⟨ib, ?_⟩⟩
        rcases h b hb with ⟨m1, m2⟩ | ⟨l', z', k1, k2, k3, k4, k5, k6, k7⟩
        · rw [bI_t m1]
          refine ⟨fun e => absurd e (by decide), fun _ => ?_⟩
          simp only [W8fi, w_X9_copy, W9ir, bI_t h1, bI_t h2, ix_nat (show a < 2 ^ 31 by omega), ix_nat (show b < 2 ^ 31 by omega), i10, not_true_eq_false, not_false_eq_true, false_implies, true_implies, and_true, true_and, W9fi]
          rw [ms_ne (by decide), g6, m2]
          exact ⟨ia, fun e => absurd e (nI_pos (by omega)), fun _ => ⟨ib, fun e => absurd e nge0, fun _ => fnd2 h 1⟩⟩
        · rw [bI_f (by rw [k3]; exact nI_m1 k1)]
          refine ⟨fun _ => ⟨ia, ib, ?_⟩, fun e => absurd rfl e⟩
          rw [g3, k3]
          by_cases hl : l = l'
          · subst hl
            refine ⟨fun _ => ⟨ia, ?_⟩, fun e => absurd rfl e⟩
            refine W4_find (sz := z) (by rw [g3]; exact nI_m1 g1) g5 g2 (fun sp => ⟨fun e => absurd rfl e, fun _ => ⟨ib, ?_⟩⟩) (fun sp => ⟨fun _ => ?_, fun e => absurd e (by decide)⟩)
            · refine W4_find (sz := z') (by rw [k3]; exact nI_m1 k1) k5 k2 (fun sp2 => ⟨fun _ => ⟨ia, ib, ?_⟩, fun e => absurd rfl e⟩) (fun sp2 => ⟨fun e => absurd e (by decide), fun _ => ?_⟩)
              · have sp0 := sp
                have sp20 := sp2
                obtain ⟨i, n, rfl, rfl, hin⟩ := sp
                obtain ⟨j, n', rfl, en, hjn⟩ := sp2
                have e' : n = n' := nI_inj (by omega) (by omega) en
                subst e'
                rw [ix_nat (by omega), ix_nat (by omega), ix_nat (by omega)]
                refine ⟨⟨nI_pos (by omega), nI_pos (by omega), nI_pos (by omega), by omega, by omega⟩, fun M33 e33 => ?_⟩
                simp only [W8un, w_X9_copy, W9ir, bI_t h1, bI_t h2, ix_nat (show a < 2 ^ 31 by omega), ix_nat (show b < 2 ^ 31 by omega), i10, not_true_eq_false, not_false_eq_true, false_implies, true_implies, and_true, true_and, W9fi]
                have e89a : ms M33 0 11 0 89 a = nI z := by rw [e33, ms_ne (by decide), mcp_ne (by omega), g6]
                have e89b : ms M33 0 11 0 89 b = nI z' := by rw [e33, ms_ne (by decide), mcp_ne (by omega), k6]
                have e88a : ms M33 0 11 0 88 a = nI l := by rw [e33, ms_ne (by decide), mcp_ne (by omega), g4]
                have e88b : ms M33 0 11 0 88 b = nI l := by rw [e33, ms_ne (by decide), mcp_ne (by omega), k4]
                rw [e89a, e89b, e88a, e88b]
                refine ⟨ia, fun e => absurd e (nI_pos (by omega)), fun _ => ⟨ib, fun _ => ⟨ia, ib, fun _ => ?_, fun e => absurd rfl e⟩, fun e => absurd (nI_pos' (by omega)) e⟩⟩
                rw [W9_span ha e89a g2, bI_t sp0]
                refine ⟨fun e => absurd e (by decide), fun _ => ?_⟩
                rw [W9_span hb e89b k2, bI_t sp20]
                refine ⟨fun _ => ?_, fun e => absurd e (by decide)⟩
                refine copy_9 ha hb (by omega) (by omega) ?_
                subst e33
                refine ⟨rfl, IRow_one (r := b) h ?_ (Or.inr ⟨l, z', k1, k2, ?_, ?_, ?_, ?_, ?_⟩), ?_, ?_⟩
                · intro q hq hne
                  simp only [ms_app, cpI_app, mcp_app, and_self, and_true, true_and, ite_true]
                  refine ⟨?_, ?_, ?_, ?_, fun i hi => ⟨?_, ?_⟩⟩ <;> (repeat (first | rw [if_pos (by omega)] | rw [if_neg (by omega)]))
                · simp only [ms_app, cpI_app, mcp_app, and_self, and_true, true_and, ite_true]
                  repeat (first | rw [if_pos (by omega)] | rw [if_neg (by omega)])
                  exact k3
                · simp only [ms_app, cpI_app, mcp_app, and_self, and_true, true_and, ite_true]
                  repeat (first | rw [if_pos (by omega)] | rw [if_neg (by omega)])
                  exact k4
                · simp only [ms_app, cpI_app, mcp_app, and_self, and_true, true_and, ite_true]
                  repeat (first | rw [if_pos (by omega)] | rw [if_neg (by omega)])
                  exact k5
                · simp only [ms_app, cpI_app, mcp_app, and_self, and_true, true_and, ite_true]
                  repeat (first | rw [if_pos (by omega)] | rw [if_neg (by omega)])
                  exact k6
                · intro x hx
                  by_cases e : j ≤ x ∧ x < j + n
                  · simp only [ms_app, cpI_app, mcp_app, and_self, and_true, true_and, ite_true]
                    repeat (first | rw [if_pos (by omega)] | rw [if_neg (by omega)])
                    rw [g7 _ (by omega)]
                    congr 1
                    omega
                  · simp only [ms_app, cpI_app, mcp_app, and_self, and_true, true_and, ite_true]
                    repeat (first | rw [if_pos (by omega)] | rw [if_neg (by omega)])
                    exact k7 x hx
                · unfold IStat
                  simp only [ms_app, cpI_app, mcp_app, and_self, and_true, true_and, ite_true]
                  repeat (first | rw [if_pos (by omega)] | rw [if_neg (by omega)])
                · intro u w hn
                  have := hn
                  unfold SRow at this
                  simp only [ms_app, cpI_app, mcp_app, and_self, and_true, true_and, ite_true]
                  repeat (first | rw [if_pos (by omega)] | rw [if_neg (by omega)])
              · simp only [W8fi, w_X9_copy, W9ir, bI_t h1, bI_t h2, ix_nat (show a < 2 ^ 31 by omega), ix_nat (show b < 2 ^ 31 by omega), i10, not_true_eq_false, not_false_eq_true, false_implies, true_implies, and_true, true_and, W9fi]
                have e89a : ms M 0 11 2 89 a = nI z := by rw [ms_ne (by decide), g6]
                have e89b : ms M 0 11 2 89 b = nI z' := by rw [ms_ne (by decide), k6]
                have e88a : ms M 0 11 2 88 a = nI l := by rw [ms_ne (by decide), g4]
                have e88b : ms M 0 11 2 88 b = nI l := by rw [ms_ne (by decide), k4]
                rw [e89a, e89b, e88a, e88b]
                refine ⟨ia, fun e => absurd e (nI_pos (by omega)), fun _ => ⟨ib, fun _ => ⟨ia, ib, fun _ => ?_, fun e => absurd rfl e⟩, fun e => absurd (nI_pos' (by omega)) e⟩⟩
                rw [W9_span ha e89a g2, bI_t sp]
                refine ⟨fun e => absurd e (by decide), fun _ => ?_⟩
                rw [W9_span hb e89b k2, bI_f sp2]
                exact ⟨fun e => absurd rfl e, fun _ => fnd2 h 2⟩
            · simp only [W8fi, w_X9_copy, W9ir, bI_t h1, bI_t h2, ix_nat (show a < 2 ^ 31 by omega), ix_nat (show b < 2 ^ 31 by omega), i10, not_true_eq_false, not_false_eq_true, false_implies, true_implies, and_true, true_and, W9fi]
              have e89a : ms M 0 11 2 89 a = nI z := by rw [ms_ne (by decide), g6]
              have e89b : ms M 0 11 2 89 b = nI z' := by rw [ms_ne (by decide), k6]
              have e88a : ms M 0 11 2 88 a = nI l := by rw [ms_ne (by decide), g4]
              have e88b : ms M 0 11 2 88 b = nI l := by rw [ms_ne (by decide), k4]
              rw [e89a, e89b, e88a, e88b]
              refine ⟨ia, fun e => absurd e (nI_pos (by omega)), fun _ => ⟨ib, fun _ => ⟨ia, ib, fun _ => ?_, fun e => absurd rfl e⟩, fun e => absurd (nI_pos' (by omega)) e⟩⟩
              rw [W9_span ha e89a g2, bI_f sp]
              exact ⟨fun _ => fnd2 h 2, fun e => absurd rfl e⟩
          · have hne : ¬ nI l = nI l' := fun e => hl (nI_inj (by omega) (by omega) e)
            refine ⟨fun e => absurd e hne, fun _ => ?_⟩
            simp only [W8fi, w_X9_copy, W9ir, bI_t h1, bI_t h2, ix_nat (show a < 2 ^ 31 by omega), ix_nat (show b < 2 ^ 31 by omega), i10, not_true_eq_false, not_false_eq_true, false_implies, true_implies, and_true, true_and, W9fi]
            have e89a : ms M 0 11 5 89 a = nI z := by rw [ms_ne (by decide), g6]
            have e89b : ms M 0 11 5 89 b = nI z' := by rw [ms_ne (by decide), k6]
            have e88a : ms M 0 11 5 88 a = nI l := by rw [ms_ne (by decide), g4]
            have e88b : ms M 0 11 5 88 b = nI l' := by rw [ms_ne (by decide), k4]
            rw [e89a, e89b, e88a, e88b]
            exact ⟨ia, fun e => absurd e (nI_pos (by omega)), fun _ => ⟨ib, fun _ => ⟨ia, ib, fun e => absurd e hne, fun _ => fnd2 h 5⟩, fun e => absurd (nI_pos' (by omega)) e⟩⟩
    · simp only [w_X8_copy, w_X9_copy, W8w8, W9ir, bI_t h1, bI_f h2, i10, not_true_eq_false, not_false_eq_true, false_implies, true_implies, and_true, true_and]
      exact bad2 h hs _
  · simp only [w_X8_copy, w_X9_copy, W8w8, W9ir, bI_f h1, i10, not_true_eq_false, not_false_eq_true, false_implies, true_implies, and_true, true_and]
    exact bad2 h hs _
