/-- the reference's row with i numbers copied from a to b -/
def cpT (M : Mem) (a b i : Nat) : Mem := va_up M 86 (fun x => if b ≤ x ∧ x < b + i then M 86 (a + (x - b)) else M 86 x)
theorem cpT_app (M : Mem) (a b i u x : Nat) : cpT M a b i u x = if u = 86 ∧ b ≤ x ∧ x < b + i then M 86 (a + (x - b)) else M u x := by
  unfold cpT
  by_cases e : u = 86
  · subst e
    rw [va_up_self]
    by_cases h : b ≤ x ∧ x < b + i
    · rw [if_pos h, if_pos ⟨rfl, h⟩]
    · rw [if_neg h, if_neg (fun z => h z.2)]
  · rw [va_up_ne _ _ e, if_neg (fun z => e z.1)]
theorem cpT_0 (M : Mem) (a b : Nat) : cpT M a b 0 = M := by
  funext u x
  rw [cpT_app, if_neg (by omega)]
theorem cpT_s (M : Mem) (a b i : Nat) : ms (cpT M a b i) 86 (b + i) (M 86 (a + i)) = cpT M a b (i + 1) := by
  funext u x
  rw [ms_app, cpT_app, cpT_app]
  by_cases h : u = 86 ∧ x = b + i
  · rw [if_pos h, if_pos (by omega), show x - b = i by omega]
  · rw [if_neg h]
    by_cases h2 : u = 86 ∧ b ≤ x ∧ x < b + i
    · rw [if_pos h2, if_pos (by omega)]
    · rw [if_neg h2, if_neg (by omega)]
theorem W9_copyTown {M : Mem} {a b : Nat} {Q : Mem → Prop} (ha : a + 126 ≤ 3528) (hb : b + 126 ≤ 3528) (hab : a + 126 ≤ b ∨ b + 126 ≤ a) (q : Q (cpT M a b 126)) : w_X9_copyTown M (nI a) (nI b) Q := by
  have go : ∀ m i : Nat, i + m = 126 → wL_X9_copyTown_2 Q (m + 1) (cpT M a b i) (nI a) (nI b) (nI i) := by
    intro m
    induction m with
    | zero =>
      intro i hi
      have hi : i = 126 := by omega
      subst hi
      exact ⟨fun _ => q, fun e => absurd (nI_le (a := 126) (b := 126) (by omega) (by decide)) e⟩
    | succ m ih =>
      intro i hi
      refine ⟨fun e => absurd e (nI_ge (a := i) (b := 126) (by omega) (by decide)), fun _ => ?_⟩
      rw [nI_add, nI_add]
      intro v2 e2
      rw [e2, ix_nat (by omega), ix_nat (by omega)]
      refine ⟨vp_in_nI (by omega) (by decide), fun v4 e4 => ⟨vp_in_nI (by omega) (by decide), fun M6 e6 v7 e7 => ?_⟩⟩
      rw [cpT_app, if_neg (by omega)] at e4
      rw [e4, cpT_s] at e6
      rw [e6, e7, nI_1]
      exact ih (i + 1) (by omega)
  refine ⟨127, ?_⟩
  have h := go 126 0 (by omega)
  rw [cpT_0] at h
  exact h
/-- what the reference's keeping of the past leaves -/
def KP (M M2 : Mem) (n : Nat) : Prop := M2 85 1 = nI (nmin n) ∧ (∀ k j, ¬ (k = 85 ∧ j = 1) → k ≠ 86 → M2 k j = M k j) ∧ (∀ i, i < 126 → M2 86 i = M 86 i) ∧ (∀ i, i < 126 → M2 86 (126 * nmin n + i) = M 86 i) ∧ (∀ j, 1 ≤ j → j < nmin n → ∀ i, i < 126 → M2 86 (126 * j + i) = M 86 (126 * (if n = 24 then j + 1 else j) + i)) ∧ ∀ x, 3150 ≤ x → M2 86 x = M 86 x
theorem keep62 {M : Mem} {n : Nat} {s1 s2 : Int32} {Q : Mem → Prop} (hn : n ≤ 23) (hs : s1 - s2 = nI n) (q : ∀ M2, M2 = ms (cpT (ms M 85 1 (nI n)) 0 (126 + 126 * n) 126) 85 1 (nI (n + 1)) → Q M2) : wJ_X9_keepPast_62 Q M s1 s2 := by
  unfold wJ_X9_keepPast_62
  intro v1 e1 M2 e2
  rw [hs] at e1
  have h1 : M2 85 1 = nI n := by rw [e2, ms_eq, e1]
  rw [h1, show 126 + 126 * nI n = nI (126 + 126 * n) from by rw [show (126 : Int32) = nI 126 from rfl, pk_mul, nI_add]]
  refine W9_copyTown (a := 0) (by omega) (by omega) (by omega) ?_
  intro v5 e5 M6 e6
  refine q M6 ?_
  rw [e6, e5, cpT_app, if_neg (by omega), h1, nI_1, e2, e1]
theorem W9_keepPast {M : Mem} {n : Nat} {Q : Mem → Prop} (hn : n ≤ 24) (h1 : M 85 1 = nI n) (q : ∀ M2, KP M M2 n → Q M2) : w_X9_keepPast M Q := by
  by_cases e : n = 24
  · subst e
    have fin : wJ_X9_keepPast_43 Q (cpT M 252 126 2898) := by
      have hu : cpT M 252 126 2898 85 1 = nI 24 := by rw [cpT_app, if_neg (by omega), h1]
      unfold wJ_X9_keepPast_43
      rw [hu]
      refine ⟨fun e => absurd rfl e, fun _ => keep62 (n := 23) (by omega) (by decide) (fun M2 e2 => q M2 ?_)⟩
      subst e2
      refine ⟨?_, ?_, ?_, ?_, ?_, ?_⟩
      · rw [ms_eq]; rfl
      · intro k j h1 h2
        simp only [ms_app, cpT_app]
        repeat (first | rw [if_pos (by omega)] | rw [if_neg (by omega)])
      · intro i hi
        simp only [ms_app, cpT_app, true_and]
        repeat (first | rw [if_pos (by omega)] | rw [if_neg (by omega)])
      · intro i hi
        rw [show nmin 24 = 24 from rfl]
        simp only [ms_app, cpT_app, true_and]
        repeat (first | rw [if_pos (by omega)] | rw [if_neg (by omega)])
        exact congrArg (M 86) (by omega)
      · intro j h1 h2 i hi
        rw [show nmin 24 = 24 from rfl] at h2
        rw [if_pos rfl]
        simp only [ms_app, cpT_app, true_and]
        repeat (first | rw [if_pos (by omega)] | rw [if_neg (by omega)])
        exact congrArg (M 86) (by omega)
      · intro x hx
        simp only [ms_app, cpT_app, true_and]
        repeat (first | rw [if_pos (by omega)] | rw [if_neg (by omega)])
    have go : ∀ m i : Nat, i + m = 2898 → wL_X9_keepPast_2 Q (m + 1) (cpT M 252 126 i) (nI i) := by
      intro m
      induction m with
      | zero =>
        intro i hi
        have hi : i = 2898 := by omega
        subst hi
        exact ⟨fun _ => fin, fun e => absurd (nI_le (a := 2898) (b := 2898) (by omega) (by decide)) e⟩
      | succ m ih =>
        intro i hi
        refine ⟨fun e => absurd e (nI_ge (a := i) (b := 2898) (by omega) (by decide)), fun _ => ⟨fun e => absurd ?_ e, fun _ => ?_⟩⟩
        · rw [cpT_app, if_neg (by omega), h1]; rfl
        · rw [show 252 + nI i = nI (252 + i) from lin2 252 i, show 126 + nI i = nI (126 + i) from lin2 126 i]
          intro v3 e3
          rw [e3, ix_nat (by omega), ix_nat (by omega)]
          refine ⟨vp_in_nI (by omega) (by decide), fun v5 e5 => ⟨vp_in_nI (by omega) (by decide), fun M7 e7 v8 e8 => ?_⟩⟩
          rw [cpT_app, if_neg (by omega)] at e5
          rw [e5, cpT_s] at e7
          rw [e7, e8, nI_1]
          exact ih (i + 1) (by omega)
    refine ⟨2899, ?_⟩
    have h := go 2898 0 (by omega)
    rw [cpT_0] at h
    exact h
  · have hne : ¬ M 85 1 = 24 := by
      rw [h1]; exact fun z => e (nI_inj (b := 24) (by omega) (by decide) z)
    have fin : wJ_X9_keepPast_43 Q M := by
      refine ⟨fun _ => keep62 (n := n) (by omega) (by rw [h1, Int32.sub_zero]) (fun M2 e2 => q M2 ?_), fun z => absurd z hne⟩
      subst e2
      have em : nmin n = n + 1 := by unfold nmin; rw [if_neg e]
      unfold KP
      rw [em]
      refine ⟨?_, ?_, ?_, ?_, ?_, ?_⟩
      · rw [ms_eq]
      · intro k j h1 h2
        simp only [ms_app, cpT_app]
        repeat (first | rw [if_pos (by omega)] | rw [if_neg (by omega)])
      · intro i hi
        simp only [ms_app, cpT_app, true_and]
        repeat (first | rw [if_pos (by omega)] | rw [if_neg (by omega)])
      · intro i hi
        simp only [ms_app, cpT_app, true_and]
        repeat (first | rw [if_pos (by omega)] | rw [if_neg (by omega)])
        exact congrArg (M 86) (by omega)
      · intro j h1 h2 i hi
        rw [if_neg e]
        simp only [ms_app, cpT_app, true_and]
        repeat (first | rw [if_pos (by omega)] | rw [if_neg (by omega)])
      · intro x hx
        simp only [ms_app, cpT_app, true_and]
        repeat (first | rw [if_pos (by omega)] | rw [if_neg (by omega)])
    refine ⟨1, fun _ => fin, fun _ => ⟨fun _ => fin, fun z => absurd z hne⟩⟩
/-! the class keeps an ACT -/
def kpC (M : Mem) (n nx : Nat) (a p d : Int32) : Mem := ms (ms (ms (ms (ms M 22 nx a) 23 nx p) 24 nx d) 21 5 (nI ((nx + 1) % 24))) 21 6 (nI (nmin n))
theorem rem24 (t : Nat) (h : t < 2 ^ 31) : nI t - nI t / 24 * 24 = nI (t % 24) := pk_rem (d := 24) h (by decide) (by decide)
theorem W0_keep {M : Mem} {n nx : Nat} {a p d : Int32} {Q : Mem → Prop} (hn : n ≤ 24) (hx : nx < 24) (h5 : M 21 5 = nI nx) (h6 : M 21 6 = nI n) (q : Q (kpC M n nx a p d)) : w_X0_keep M a p d Q := by
  have hin : vp_in (nI nx) 24 := vp_in_nI hx (by decide)
  unfold w_X0_keep
  rw [h5, ix_nat (by omega)]
  refine ⟨hin, fun M2 e2 => ?_⟩
  have k2 : M2 21 5 = nI nx := by rw [e2, ms_ne (by decide), h5]
  rw [k2, ix_nat (by omega)]
  refine ⟨hin, fun M4 e4 => ?_⟩
  have k4 : M4 21 5 = nI nx := by rw [e4, ms_ne (by decide), k2]
  rw [k4, ix_nat (by omega)]
  refine ⟨hin, fun M6 e6 => ?_⟩
  have k6 : M6 21 5 = nI nx := by rw [e6, ms_ne (by decide), k4]
  rw [k6, nI_1, rem24 _ (by omega)]
  intro v7 e7 M8 e8
  have k8 : M8 21 6 = nI n := by rw [e8, ms_ne2 (by decide), e6, ms_ne (by decide), e4, ms_ne (by decide), e2, ms_ne (by decide), h6]
  rw [k8, nI_1]
  intro v9 e9 M10 e10
  have hv : v9 = nI (nmin n) := by
    rw [e9]
    unfold nmin
    by_cases e : n = 24
    · subst e; decide
    · rw [if_neg e, if_neg]
      intro z
      have := (nI_ltI (a := 24) (by decide) (by omega)).mp z
      omega
  rw [e10, hv, e8, e7, e6, e4, e2]
  exact q
