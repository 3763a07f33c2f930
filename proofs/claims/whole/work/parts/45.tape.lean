def ITape (M : Mem) : Prop := ∃ L : Nat, L ≤ 120 ∧ M 19 1 = nI L ∧ M 85 7 = nI L ∧ ∀ i, i < L → M 20 i = M 91 i
def IFlt (M : Mem) : Prop := M 0 10 = M 85 8
def ITrace (M : Mem) : Prop := ∃ L : Nat, L ≤ 16 ∧ M 27 1 = nI L ∧ M 85 11 = nI L ∧ ∀ i, i < L → M 28 i = M 92 i
def STape (k j : Nat) : Prop := (k = 19 ∧ j = 1) ∨ k = 20 ∨ (k = 85 ∧ j = 7) ∨ k = 91
def Snone (_ _ : Nat) : Prop := False
theorem S_feed (M : Mem) (a : Int32) (h : ITape M) : w_X8_feed M a (fun r M1 => w_X9_feed M1 a (fun r2 M2 => r = r2 ∧ ITape M2 ∧ Fr STape M M2)) := by
  by_cases h1 : isIx a 256
  · simp only [w_X8_feed, w_X9_feed, W8w256, W9i255, bI_t h1, i10, not_true_eq_false, not_false_eq_true, false_implies, true_implies, and_true, true_and, w_X3_take, forall_eq]
    obtain ⟨L, hL, e1, e2, e3⟩ := h
    rw [e1]
    by_cases hf : L = 120
    · subst hf
      refine ⟨fun e => absurd rfl e, fun _ => ⟨?_, fun _ => ?_⟩⟩
      · rw [e2]; exact fun e => absurd rfl e
      · exact ⟨⟨120, hL, e1, e2, e3⟩, Fr_rf _ _⟩
    · have hne : ¬ nI L = 120 := fun e => hf (nI_inj (b := 120) (by omega) (by decide) e)
      have hin : vp_in (nI L) 120 := vp_in_nI (by omega) (by decide)
      refine ⟨fun _ => ⟨hin, ?_⟩, fun e => absurd e hne⟩
      rw [ix_nat (by omega)]
      have a1 : ms M 20 L a 19 1 + 1 = nI (L + 1) := by rw [ms_ne (by decide), e1, nI_1]
      rw [a1]
      have a2 : ms (ms M 20 L a) 19 1 (nI (L + 1)) 85 7 = nI L := by rw [ms_ne (by decide), ms_ne (by decide), e2]
      rw [a2]
      refine ⟨fun _ => ⟨hin, ?_⟩, fun e => absurd e hne⟩
      rw [ix_nat (by omega)]
      have a3 : ms (ms (ms M 20 L a) 19 1 (nI (L + 1))) 91 L a 85 7 + 1 = nI (L + 1) := by rw [ms_ne (by decide), a2, nI_1]
      rw [a3]
      refine ⟨?_, ⟨L + 1, by omega, ?_, ?_, fun i hi => ?_⟩, ?_⟩
      · rw [ms_eq, ms_eq]
      · simp only [ms_app, and_self, and_true, true_and, ite_true]
        repeat (first | rw [if_pos (by omega)] | rw [if_neg (by omega)])
      · simp only [ms_app, and_self, and_true, true_and, ite_true]
      · simp only [ms_app, and_self, and_true, true_and, ite_true]
        by_cases e : i = L
        · repeat (first | rw [if_pos (by omega)] | rw [if_neg (by omega)])
        · repeat (first | rw [if_pos (by omega)] | rw [if_neg (by omega)])
          exact e3 i (by omega)
      · intro u w hn
        unfold STape at hn
        simp only [ms_app, and_self, and_true, true_and, ite_true]
        repeat (first | rw [if_pos (by omega)] | rw [if_neg (by omega)])
  · simp only [w_X8_feed, w_X9_feed, W8w256, W9i255, bI_f h1, i10, not_true_eq_false, not_false_eq_true, false_implies, true_implies, and_true, true_and]
    exact ⟨h, Fr_rf _ _⟩
theorem W9m {M : Mem} {x v : Int32} {z : Nat} {Q : Int32 → Mem → Prop} (hv : v = nI z) (hz : z < 2 ^ 31) (q1 : isIx x z → Q 1 M) (q0 : ¬ isIx x z → Q 0 M) : w_X9_in M x.toInt64 0 (v - 1).toInt64 Q := by
  rw [show (0 : Int64) = (0 : Int32).toInt64 from by decide, W9_inI, hv, bI_congr (ix_m1 hz)]
  by_cases h : isIx x z
  · rw [bI_t h]; exact q1 h
  · rw [bI_f h]; exact q0 h
theorem W8m {M : Mem} {x v : Int32} {z : Nat} {Q : Int32 → Mem → Prop} (hv : v = nI z) (hz : z < 2 ^ 31) (q1 : isIx x z → Q 1 M) (q0 : ¬ isIx x z → Q 0 M) : w_X8_within M x v Q := by
  rw [hv, W8_ix hz]
  by_cases h : isIx x z
  · rw [bI_t h]; exact q1 h
  · rw [bI_f h]; exact q0 h
theorem S_trace (M : Mem) (a : Int32) (h : ITrace M) : w_X8_trace M a (fun r M1 => w_X9_trace M1 a (fun r2 M2 => r = r2 ∧ M2 = M)) := by
  obtain ⟨L, hL, e1, e2, e3⟩ := h
  unfold w_X8_trace
  refine W8m e1 (by omega) (fun h1 => ⟨fun e => absurd e (by decide), fun _ => ?_⟩) (fun h1 => ⟨fun _ => ?_, fun e => absurd rfl e⟩)
  · unfold w_X9_trace
    have h0 := h1
    obtain ⟨i, hi, rfl⟩ := h1
    rw [ix_nat (by omega)]
    refine ⟨vp_in_nI (by omega) (by decide), ?_⟩
    refine W9m e2 (by omega) (fun _ => ⟨fun e => absurd e (by decide), fun _ => ⟨vp_in_nI (by omega) (by decide), e3 i hi, rfl⟩⟩) (fun e => absurd h0 e)
  · unfold w_X9_trace
    exact W9m e2 (by omega) (fun e => absurd e h1) (fun _ => ⟨fun _ => ⟨rfl, rfl⟩, fun e => absurd rfl e⟩)
theorem S_fault (M : Mem) (h : IFlt M) : w_X8_fault M (fun r M1 => w_X9_fault M1 (fun r2 M2 => r = r2 ∧ M2 = M)) := ⟨h, rfl⟩
theorem S_status (M : Mem) (h : IStat M) : w_X8_status M (fun r M1 => w_X9_status M1 (fun r2 M2 => r = r2 ∧ M2 = M)) := ⟨h, rfl⟩
