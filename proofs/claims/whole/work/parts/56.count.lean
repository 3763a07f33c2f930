theorem cnt_rows {M : Mem} {Q : Int32 → Mem → Prop} (h : IRow M) (hQ : ∀ n : Nat, ((∃ n2 : Nat, wL_X9_count_54 Q n2 M 0 0) → True) → (∀ Q2 : Int32 → Mem → Prop, Q2 (nI n) M → ∃ n2 : Nat, wL_X9_count_54 Q2 n2 M 0 0) → Q (nI n) M) : w_X8_rowsThere M Q := by
  have key : ∃ c : Nat → Nat, c 0 = 0 ∧ ∀ r, r < 8 → (M (3 + 2 * r) 1 = -1 ∧ M 89 r = -1 ∧ c (r + 1) = c r) ∨ (¬ M (3 + 2 * r) 1 = -1 ∧ 0 ≤ M 89 r ∧ c (r + 1) = c r + 1) := by
    refine ⟨fun n => fb_ct (fun r => decide (¬ M 89 r = -1)) n, rfl, fun r hr => ?_⟩
    rcases h r hr with ⟨m1, m2⟩ | ⟨l, z, g1, g2, g3, g4, g5, g6, g7⟩
    · refine Or.inl ⟨m1, m2, ?_⟩
      show fb_ct (fun r => decide (¬ M 89 r = -1)) (r + 1) = fb_ct (fun r => decide (¬ M 89 r = -1)) r
      rw [fb_ct_succ, if_neg (by simp [m2]), Nat.add_zero]
    · refine Or.inr ⟨by rw [g3]; exact nI_m1 g1, by rw [g6]; exact nI_pos' (by omega), ?_⟩
      have : ¬ nI z = -1 := by
        intro e
        have h1 := congrArg Int32.toInt e
        rw [nI_toInt (by omega), show (-1 : Int32).toInt = -1 from by decide] at h1
        omega
      show fb_ct (fun r => decide (¬ M 89 r = -1)) (r + 1) = fb_ct (fun r => decide (¬ M 89 r = -1)) r + 1
      rw [fb_ct_succ, if_pos (by simp [g6, this])]
  obtain ⟨c, hc0, hc⟩ := key
  have go9 : ∀ Q2 : Int32 → Mem → Prop, Q2 (nI (c 8)) M → ∀ m i : Nat, i + m = 8 → wL_X9_count_54 Q2 (m + 1) M (nI (c i)) (nI i) := by
    intro Q2 q2 m
    induction m with
    | zero =>
      intro i hi
      have hi : i = 8 := by omega
      subst hi
      exact ⟨fun _ => q2, fun e => absurd (nI_le (a := 8) (b := 8) (by omega) (by decide)) e⟩
    | succ m ih =>
      intro i hi
      refine ⟨fun e => absurd e (nI_ge (a := i) (b := 8) (by omega) (by decide)), fun _ => ⟨vp_in_nI (by omega) (by decide), ?_⟩⟩
      have hh := ih (i + 1) (by omega)
      rw [ix_nat (by omega)]
      rcases hc i (by omega) with ⟨a1, a2, a3⟩ | ⟨a1, a2, a3⟩
      · rw [a3] at hh
        refine ⟨fun e => absurd e (by rw [a2]; decide), fun _ v6 e6 v7 e7 => ?_⟩
        rw [e6, e7, nI_1, Int32.add_zero]; exact hh
      · rw [a3] at hh
        refine ⟨fun _ v6 e6 v7 e7 => ?_, fun e => absurd a2 e⟩
        rw [e6, e7, nI_1, nI_1]; exact hh
  have fin : Q (nI (c 8)) M := hQ (c 8) (fun _ => trivial) (fun Q2 q2 => ⟨9, by have := go9 Q2 q2 8 0 (by omega); rw [hc0] at this; exact this⟩)
  have go8 : ∀ m i : Nat, i + m = 8 → wL_X8_rowsThere_4 Q (m + 1) M (nI (c i)) (nI i) := by
    intro m
    induction m with
    | zero =>
      intro i hi
      have hi : i = 8 := by omega
      subst hi
      exact ⟨fun _ => fin, fun e => absurd (nI_le (a := 8) (b := 8) (by omega) (by decide)) e⟩
    | succ m ih =>
      intro i hi
      refine ⟨fun e => absurd e (nI_ge (a := i) (b := 8) (by omega) (by decide)), fun _ => ⟨vp_in_nI (by omega) (by decide), ?_⟩⟩
      have hh := ih (i + 1) (by omega)
      rw [ix_nat (by omega), W4mi]
      rcases hc i (by omega) with ⟨a1, a2, a3⟩ | ⟨a1, a2, a3⟩
      · rw [a3] at hh
        rw [bI_t a1]
        refine cr1 (fun v6 e6 => ?_)
        rw [e6, nI_1]; exact hh
      · rw [a3] at hh
        rw [bI_f a1]
        refine cr0 (fun v7 e7 v8 e8 => ?_)
        rw [e7, e8, nI_1, nI_1]; exact hh
  refine ⟨9, ?_⟩
  have := go8 8 0 (by omega)
  rw [hc0] at this
  exact this
/-- all TIMES of all -/
def tall (A : Tn) : Nat := fb_sm (tsum A) (np A)
theorem W6_tall {M : Mem} {T : Nat} {A : Tn} {Q : Int32 → Mem → Prop} (hA : RC M T A) (hV : V A) (q : Q (nI (tall A)) M) : w_X6_allTimes T M Q := by
  have hn := (V_np hV).2
  have e3 : M T 3 = nI (np A) := (hA.1 3 (by decide)).trans (V_np hV).1
  have go : ∀ m i : Nat, i + m = np A → wL_X6_allTimes_4 T Q (m + 1) M (nI (fb_sm (tsum A) i)) (nI i) := by
    intro m
    induction m with
    | zero =>
      intro i hi
      have hi : i = np A := by omega
      subst hi
      exact ⟨fun _ => q, fun e => absurd (by rw [e3]; exact nI_le (Nat.le_refl _) (by omega)) e⟩
    | succ m ih =>
      intro i hi
      refine ⟨fun e => absurd e (by rw [e3]; exact nI_ge (by omega) (by omega)), fun _ => ?_⟩
      have h := ih (i + 1) (by omega)
      rw [fb_sm_succ] at h
      refine W6_tsum hA hV (by omega) (fun v4 e4 v5 e5 => ?_)
      rw [e4, e5, nI_1, nI_add]; exact h
  exact ⟨np A + 1, go (np A) 0 (by omega)⟩
theorem tsum0 {A : Tn} {p : Nat} (hp : ¬ p < np A) : fb_sm (fun d => if p < np A ∧ d < nd A then na A 9 (6 * p + d) else 0) 6 = 0 := by
  have : fb_sm (fun d => if p < np A ∧ d < nd A then na A 9 (6 * p + d) else 0) 6 = fb_sm (fun _ => 0) 6 := fb_sm_cong (fun k _ => by rw [if_neg (fun e => hp e.1)])
  rw [this, fb_sm_const]
theorem W9_tall {M : Mem} {A : Tn} {Q : Int32 → Mem → Prop} (hB : RM M 0 A) (hV : V A) (q : Q (nI (tall A)) M) : ∃ n8 : Nat, wL_X9_count_115 Q n8 M 0 0 := by
  have hn := (V_np hV).2
  have hS : fb_sm (fun p => if p < np A then tsum A p else 0) 6 = tall A := by
    have h := sm_cut (tsum A) (np A) (6 - np A)
    rw [show np A + (6 - np A) = 6 by omega] at h
    exact h
  have go : ∀ m i : Nat, i + m = 6 → wL_X9_count_115 Q (m + 1) M (nI (fb_sm (fun p => if p < np A then tsum A p else 0) i)) (nI i) := by
    intro m
    induction m with
    | zero =>
      intro i hi
      have hi : i = 6 := by omega
      subst hi
      rw [hS]
      exact ⟨fun _ => q, fun e => absurd (nI_le (a := 6) (b := 6) (by omega) (by decide)) e⟩
    | succ m ih =>
      intro i hi
      refine ⟨fun e => absurd e (nI_ge (a := i) (b := 6) (by omega) (by decide)), fun _ => ?_⟩
      have h := ih (i + 1) (by omega)
      rw [fb_sm_succ] at h
      refine W9_tsum6 hB hV (by omega) (fun v4 e4 v5 e5 => ?_)
      have e : fb_sm (fun d => if i < np A ∧ d < nd A then na A 9 (6 * i + d) else 0) 6 = if i < np A then tsum A i else 0 := by
        by_cases hh : i < np A
        · rw [if_pos hh, tsum6 hV hh]
        · rw [if_neg hh, tsum0 hh]
      rw [e, nI_add] at e4
      rw [e4, e5, nI_1]; exact h
  exact ⟨7, go 6 0 (by omega)⟩
theorem S_count (M : Mem) (a : Int32) (A : Tn) (hr : IRow M) (ht : ITape M) (hk : M 21 6 = M 85 1) (hC : RC M 41 A) (hM : RM M 0 A) (hV : V A) : w_X8_count M a (fun r M1 => w_X9_count M1 a (fun r2 M2 => r = r2 ∧ M2 = M)) := by
  have sc : ∀ j, j < 6 → M 41 j = M 86 (mo 0 j) := fun j hj => (hC.1 j hj).trans (RM0 hM hj).symm
  have m9 : ∀ v : Int32, (a = 0 → ∃ n2 : Nat, wL_X9_count_54 (fun r2 M2 => v = r2 ∧ M2 = M) n2 M 0 0) → (a = 5 → v = nI (tall A)) → (a = 1 → v = M 86 0) → (a = 2 → v = M 86 2) → (a = 3 → v = M 86 3) → (a = 4 → v = M 86 4) → (a = 6 → v = M 86 5) → (a = 7 → v = M 85 1) → (a = 8 → v = M 85 7) → ((¬ a = 0 ∧ ¬ a = 1 ∧ ¬ a = 2 ∧ ¬ a = 3 ∧ ¬ a = 4 ∧ ¬ a = 5 ∧ ¬ a = 6 ∧ ¬ a = 7 ∧ ¬ a = 8) → v = -1000001) → w_X9_count M a (fun r2 M2 => v = r2 ∧ M2 = M) := by
    intro v h0 h5 h1 h2 h3 h4 h6 h7 h8 h9
    exact ⟨h0, fun z => ⟨h1 z, rfl⟩, fun z => ⟨h2 z, rfl⟩, fun z => ⟨h3 z, rfl⟩, fun z => ⟨h4 z, rfl⟩, fun z => W9_tall hM hV ⟨h5 z, rfl⟩, fun z => ⟨h6 z, rfl⟩, fun z => ⟨h7 z, rfl⟩, fun z => ⟨h8 z, rfl⟩, fun z0 z1 z2 z3 z4 z5 z6 z7 z8 => ⟨h9 ⟨z0, z1, z2, z3, z4, z5, z6, z7, z8⟩, rfl⟩⟩
  unfold w_X8_count
  refine ⟨fun z => ?_, fun z => ?_, fun z => ?_, fun z => ?_, fun z => ?_, fun z => ?_, fun z => ?_, fun z => ?_, fun z => ?_, fun z0 z1 z2 z3 z4 z5 z6 z7 z8 => ?_⟩
  · subst z
    refine cnt_rows hr (fun n _ h9 => m9 _ (fun _ => h9 _ ⟨rfl, rfl⟩) ?_ ?_ ?_ ?_ ?_ ?_ ?_ ?_ ?_)
    all_goals (first | (intro e; exact absurd e (by decide)) | (intro e; exact absurd rfl e.1))
  · subst z
    refine m9 _ ?_ ?_ (fun _ => sc 0 (by decide)) ?_ ?_ ?_ ?_ ?_ ?_ ?_
    all_goals (first | (intro e; exact absurd e (by decide)) | (intro e; exact absurd rfl e.2.1))
  · subst z
    refine m9 _ ?_ ?_ ?_ (fun _ => sc 2 (by decide)) ?_ ?_ ?_ ?_ ?_ ?_
    all_goals (first | (intro e; exact absurd e (by decide)) | (intro e; exact absurd rfl e.2.2.1))
  · subst z
    refine m9 _ ?_ ?_ ?_ ?_ (fun _ => sc 3 (by decide)) ?_ ?_ ?_ ?_ ?_
    all_goals (first | (intro e; exact absurd e (by decide)) | (intro e; exact absurd rfl e.2.2.2.1))
  · subst z
    refine m9 _ ?_ ?_ ?_ ?_ ?_ (fun _ => sc 5 (by decide)) ?_ ?_ ?_ ?_
    all_goals (first | (intro e; exact absurd e (by decide)) | (intro e; exact absurd rfl e.2.2.2.2.1))
  · subst z
    refine W6_tall hC hV (m9 _ ?_ (fun _ => rfl) ?_ ?_ ?_ ?_ ?_ ?_ ?_ ?_)
    all_goals (first | (intro e; exact absurd e (by decide)) | (intro e; exact absurd rfl e.2.2.2.2.2.1))
  · subst z
    refine m9 _ ?_ ?_ ?_ ?_ ?_ ?_ (fun _ => sc 4 (by decide)) ?_ ?_ ?_
    all_goals (first | (intro e; exact absurd e (by decide)) | (intro e; exact absurd rfl e.2.2.2.2.2.2.1))
  · subst z
    refine m9 _ ?_ ?_ ?_ ?_ ?_ ?_ ?_ (fun _ => hk) ?_ ?_
    all_goals (first | (intro e; exact absurd e (by decide)) | (intro e; exact absurd rfl e.2.2.2.2.2.2.2.1))
  · subst z
    obtain ⟨L, hL, e1, e2, e3⟩ := ht
    refine m9 _ ?_ ?_ ?_ ?_ ?_ ?_ ?_ ?_ (fun _ => e1.trans e2.symm) ?_
    all_goals (first | (intro e; exact absurd e (by decide)) | (intro e; exact absurd rfl e.2.2.2.2.2.2.2.2))
  · exact m9 _ (fun e => absurd e z0) (fun e => absurd e z5) (fun e => absurd e z1) (fun e => absurd e z2) (fun e => absurd e z3) (fun e => absurd e z4) (fun e => absurd e z6) (fun e => absurd e z7) (fun e => absurd e z8) (fun _ => rfl)
