/-! truths as 0 and 1 -/
noncomputable def bI (p : Prop) : Int32 := @ite Int32 p (Classical.propDecidable p) 1 0
theorem bI_t {p : Prop} (h : p) : bI p = 1 := by
  unfold bI
  exact @if_pos p (Classical.propDecidable p) h Int32 1 0
theorem bI_f {p : Prop} (h : ¬ p) : bI p = 0 := by
  unfold bI
  exact @if_neg p (Classical.propDecidable p) h Int32 1 0
theorem bI0 {p : Prop} : bI p = 0 ↔ ¬ p := by
  by_cases h : p
  · rw [bI_t h]; exact ⟨fun e => absurd e (by decide), fun e => absurd h e⟩
  · rw [bI_f h]; exact ⟨fun _ => h, fun _ => rfl⟩
theorem bI1 {p : Prop} : bI p = 1 ↔ p := by
  by_cases h : p
  · rw [bI_t h]; exact ⟨fun _ => h, fun _ => rfl⟩
  · rw [bI_f h]; exact ⟨fun e => absurd e (by decide), fun e => absurd e h⟩
theorem bIz (p : Prop) : vz (bI p) := by
  by_cases h : p
  · exact Or.inr (bI_t h)
  · exact Or.inl (bI_f h)
theorem bI_congr {p q : Prop} (h : p ↔ q) : bI p = bI q := by
  by_cases hp : p
  · rw [bI_t hp, bI_t (h.mp hp)]
  · rw [bI_f hp, bI_f (fun e => hp (h.mpr e))]
/-- a number below n -/
def isIx (x : Int32) (n : Nat) : Prop := ∃ j : Nat, j < n ∧ x = nI j
theorem isIx_iff {x : Int32} {n : Nat} (hn : n < 2 ^ 31) : (0 ≤ x ∧ x < nI n) ↔ isIx x n := by
  constructor
  · intro ⟨h1, h2⟩
    obtain ⟨j, hj, rfl⟩ := nI_of (Int32.not_lt.mpr h1)
    exact ⟨j, (nI_ltI hj hn).mp h2, rfl⟩
  · intro ⟨j, hj, e⟩
    rw [e]
    exact ⟨nI_pos' (by omega), nI_lt hj hn⟩
theorem ix_in {x : Int32} {n : Nat} (h : isIx x n) (hn : n < 2 ^ 31) : vp_in x n := by
  obtain ⟨j, hj, rfl⟩ := h
  exact vp_in_nI hj hn
theorem ix_nat {j : Nat} (h : j < 2 ^ 31) : Int32.toNatClampNeg (nI j) = j := nI_clamp h
theorem ix_eq {x : Int32} {n : Nat} (h : isIx x n) (hn : n < 2 ^ 31) : Int32.toNatClampNeg x < n ∧ x = nI (Int32.toNatClampNeg x) := by
  obtain ⟨j, hj, rfl⟩ := h
  rw [nI_clamp (by omega)]
  exact ⟨hj, rfl⟩
theorem ix_le {x : Int32} {n : Nat} (hn : 0 < n) (hn2 : n < 2 ^ 31) : (0 ≤ x ∧ x ≤ nI (n - 1)) ↔ isIx x n := by
  rw [← isIx_iff hn2, fa_le, fa_le, fa_lt, nI_toInt (by omega : n - 1 < 2 ^ 31), nI_toInt hn2]
  omega
theorem lgc_lt (x y : Int64) : (lg_cmp x y < 0) ↔ x < y := by
  have h := lg_cmp_ge x y
  rw [← Int32.not_le, h, Int64.not_le]
theorem lgc_gt (x y : Int64) : (0 < lg_cmp x y) ↔ y < x := by
  unfold lg_cmp
  by_cases h : x > y
  · rw [if_pos h]
    exact ⟨fun _ => h, fun _ => by decide⟩
  · rw [if_neg h]
    by_cases e : x = y
    · rw [if_pos e]
      exact ⟨fun q => absurd q (by decide), fun q => absurd q h⟩
    · rw [if_neg e]
      exact ⟨fun q => absurd q (by decide), fun q => absurd q h⟩
/-! memory -/
theorem ms_ne {M : Mem} {k j a : Nat} {v : Int32} (h : a ≠ k) : ms M k j v a = M a := va_up_ne _ _ h
theorem ms_at (M : Mem) (k j : Nat) (v : Int32) : ms M k j v k = upd (M k) j v := va_up_self _ _ _
theorem ms_eq (M : Mem) (k j : Nat) (v : Int32) : ms M k j v k j = v := by rw [ms_at]; exact pk_us
theorem ms_ne2 {M : Mem} {k j a b : Nat} {v : Int32} (h : b ≠ j) : ms M k j v a b = M a b := by
  by_cases e : a = k
  · subst e; rw [ms_at]; exact pk_un h
  · rw [ms_ne e]
theorem ms_app (M : Mem) (k j : Nat) (v : Int32) (a b : Nat) : ms M k j v a b = if a = k ∧ b = j then v else M a b := by
  by_cases e : a = k
  · subst e
    by_cases e2 : b = j
    · subst e2; rw [ms_eq, if_pos ⟨rfl, rfl⟩]
    · rw [ms_ne2 e2, if_neg (fun z => e2 z.2)]
  · rw [ms_ne e, if_neg (fun z => e z.1)]
theorem mcp_ne {M : Mem} {k0 k1 sp dp n a : Nat} (h : a ≠ k1) : mcp M k0 k1 sp dp n a = M a := va_up_ne _ _ h
theorem mcp_at (M : Mem) (k0 k1 sp dp n : Nat) : mcp M k0 k1 sp dp n k1 = va_cpy (M k0) (M k1) sp dp n := va_up_self _ _ _
/-! the small methods -/
theorem W8_within (M : Mem) (x y : Int32) (Q : Int32 → Mem → Prop) : w_X8_within M x y Q ↔ Q (bI (0 ≤ x ∧ x < y)) M := by
  unfold w_X8_within
  by_cases h1 : x < 0
  · rw [bI_f (fun z => absurd h1 (Int32.not_lt.mpr z.1))]
    exact ⟨fun h => h.1 h1, fun h => ⟨fun _ => h, fun z => absurd h1 z⟩⟩
  · by_cases h2 : y ≤ x
    · rw [bI_f (fun z => absurd z.2 (Int32.not_lt.mpr h2))]
      exact ⟨fun h => (h.2 h1).1 h2, fun h => ⟨fun z => absurd z h1, fun _ => ⟨fun _ => h, fun z => absurd h2 z⟩⟩⟩
    · rw [bI_t ⟨Int32.not_lt.mp h1, Int32.not_le.mp h2⟩]
      exact ⟨fun h => (h.2 h1).2 h2, fun h => ⟨fun z => absurd z h1, fun _ => ⟨fun z => absurd z h2, fun _ => h⟩⟩⟩
theorem W8_ix {M : Mem} {x : Int32} {n : Nat} {Q : Int32 → Mem → Prop} (hn : n < 2 ^ 31) : w_X8_within M x (nI n) Q ↔ Q (bI (isIx x n)) M := by
  rw [W8_within, bI_congr (isIx_iff hn)]
theorem W9_in (M : Mem) (a b c : Int64) (Q : Int32 → Mem → Prop) : w_X9_in M a b c Q ↔ Q (bI (b ≤ a ∧ a ≤ c)) M := by
  unfold w_X9_in
  rw [lgc_lt, lgc_gt]
  by_cases h1 : a < b
  · rw [bI_f (fun z => absurd h1 (Int64.not_lt.mpr z.1))]
    exact ⟨fun h => h.1 h1, fun h => ⟨fun _ => h, fun z => absurd h1 z⟩⟩
  · by_cases h2 : c < a
    · rw [bI_f (fun z => absurd h2 (Int64.not_lt.mpr z.2))]
      exact ⟨fun h => (h.2 h1).1 h2, fun h => ⟨fun z => absurd z h1, fun _ => ⟨fun _ => h, fun z => absurd h2 z⟩⟩⟩
    · rw [bI_t ⟨Int64.not_lt.mp h1, Int64.not_lt.mp h2⟩]
      exact ⟨fun h => (h.2 h1).2 h2, fun h => ⟨fun z => absurd z h1, fun _ => ⟨fun z => absurd z h2, fun _ => h⟩⟩⟩
/-- in(x, b, c) of ints -/
theorem W9_inI {M : Mem} {x b c : Int32} {Q : Int32 → Mem → Prop} : w_X9_in M x.toInt64 b.toInt64 c.toInt64 Q ↔ Q (bI (b ≤ x ∧ x ≤ c)) M := by
  rw [W9_in, bI_congr (and_congr (fa_wide_le _ _) (fa_wide_le _ _))]
theorem W9_ix {M : Mem} {x : Int32} {n : Nat} {c : Int64} {Q : Int32 → Mem → Prop} (hn : 0 < n) (hn2 : n < 2 ^ 31) (hc : c = (nI (n - 1)).toInt64) : w_X9_in M x.toInt64 0 c Q ↔ Q (bI (isIx x n)) M := by
  rw [hc, show (0 : Int64) = (0 : Int32).toInt64 from by decide, W9_inI, bI_congr (ix_le hn hn2)]
theorem W9_isRow {M : Mem} {x : Int32} {Q : Int32 → Mem → Prop} : w_X9_isRow M x Q ↔ Q (bI (isIx x 8)) M := by
  unfold w_X9_isRow
  rw [W9_ix (n := 8) (by decide) (by decide) (by decide)]
  exact ⟨fun h => h.2, fun h => ⟨bIz _, h⟩⟩
theorem W8_finding {M : Mem} {v : Int32} {Q : Int32 → Mem → Prop} : w_X8_finding M v Q ↔ Q (-1000010 - v) (ms M 0 11 v) := by
  unfold w_X8_finding
  exact ⟨fun h => h _ rfl, fun h _ e => e ▸ h⟩
theorem W8_unfound {M : Mem} {v : Int32} {Q : Int32 → Mem → Prop} : w_X8_unfound M v Q ↔ Q v (ms M 0 11 0) := by
  unfold w_X8_unfound
  exact ⟨fun h => h _ rfl, fun h _ e => e ▸ h⟩
theorem W9_find {M : Mem} {v : Int32} {Q : Int32 → Mem → Prop} : w_X9_find M v Q ↔ Q (-1000010 - v) (ms M 85 9 v) := by
  unfold w_X9_find
  exact ⟨fun h => h _ rfl, fun h _ e => e ▸ h⟩
theorem W9_well {M : Mem} {v : Int32} {Q : Int32 → Mem → Prop} : w_X9_well M v Q ↔ Q v (ms M 85 9 0) := by
  unfold w_X9_well
  exact ⟨fun h => h _ rfl, fun h _ e => e ▸ h⟩
/-- two ways on one truth -/
theorem two_b {p : Prop} {A B : Prop} : ((bI p = 0 → A) ∧ (¬ bI p = 0 → B)) ↔ ((¬ p → A) ∧ (p → B)) := by
  rw [bI0, Classical.not_not]
theorem two_b2 {p : Prop} {A B : Prop} : ((¬ bI p = 0 → A) ∧ (bI p = 0 → B)) ↔ ((p → A) ∧ (¬ p → B)) := by
  rw [bI0, Classical.not_not]
