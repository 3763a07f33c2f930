/-! ROWS: row, set, copy, drop -/
/-- only what S names may have changed -/
def Fr (S : Nat → Nat → Prop) (M M2 : Mem) : Prop := ∀ k j : Nat, ¬ S k j → M2 k j = M k j
theorem Fr_rf (S : Nat → Nat → Prop) (M : Mem) : Fr S M M := fun _ _ _ => rfl
theorem Fr_tr {S : Nat → Nat → Prop} {M M1 M2 : Mem} (h1 : Fr S M M1) (h2 : Fr S M1 M2) : Fr S M M2 := fun k j h => (h2 k j h).trans (h1 k j h)
theorem Fr_ms {S : Nat → Nat → Prop} {M M1 : Mem} (h : Fr S M M1) {k j : Nat} (v : Int32) (hS : S k j) : Fr S M (ms M1 k j v) := by
  intro a b hn
  rw [ms_app, if_neg (fun e => hn (by rw [e.1, e.2]; exact hS))]
  exact h a b hn
theorem Fr_up {S : Nat → Nat → Prop} {M M1 : Mem} (h : Fr S M M1) {k : Nat} (f : Nat → Int32) (hS : ∀ j, S k j ∨ f j = M1 k j) : Fr S M (va_up M1 k f) := by
  intro a b hn
  by_cases e : a = k
  · subst e
    rw [va_up_self]
    rcases hS b with z | z
    · exact absurd z hn
    · rw [z]; exact h a b hn
  · rw [va_up_ne _ _ e]
    exact h a b hn
theorem nI_inj {a b : Nat} (ha : a < 2 ^ 31) (hb : b < 2 ^ 31) (h : nI a = nI b) : a = b := (nI_eq ha hb).mp h
theorem W4_miss {k : Nat} {M : Mem} {Q : Int32 → Mem → Prop} : w_X4_isMissing k M Q ↔ Q (bI (M k 1 = -1)) M := by
  unfold w_X4_isMissing
  by_cases h : M k 1 = -1
  · rw [bI_t h]; exact ⟨fun z => z.2 h, fun z => ⟨fun e => absurd h e, fun _ => z⟩⟩
  · rw [bI_f h]; exact ⟨fun z => z.1 h, fun z => ⟨fun _ => z, fun e => absurd e h⟩⟩
/-- n ITEMS from i on lie in a row of sz -/
def span (x y : Int32) (sz : Nat) : Prop := ∃ i n : Nat, x = nI i ∧ y = nI n ∧ i + n ≤ sz
theorem W4_find1 {k : Nat} {M : Mem} {x y : Int32} {Q : Int32 → Mem → Prop} (h : M k 1 = -1) (q : Q 1 M) : w_X4_findingOf k M x y Q := by
  unfold w_X4_findingOf
  rw [W4_miss, two_b]
  exact ⟨fun z => absurd h z, fun _ => q⟩
theorem W4_find {k : Nat} {M : Mem} {x y : Int32} {Q : Int32 → Mem → Prop} {sz : Nat} (h : ¬ M k 1 = -1) (h2 : M k 2 = nI sz) (hs : sz ≤ 40) (q0 : span x y sz → Q 0 M) (q2 : ¬ span x y sz → Q 2 M) : w_X4_findingOf k M x y Q := by
  unfold w_X4_findingOf
  rw [W4_miss, two_b]
  refine ⟨fun _ => ⟨fun e => q2 ?_, fun e1 => ⟨fun e => q2 ?_, fun e2 => ?_⟩⟩, fun z => absurd z h⟩
  · intro ⟨i, n, ei, _, hh⟩
    rw [ei] at e
    exact absurd e (nI_pos (by omega))
  · intro ⟨i, n, _, en, hh⟩
    rw [en] at e
    exact absurd e (nI_pos (by omega))
  · obtain ⟨i, hi, rfl⟩ := nI_of e1
    obtain ⟨n, hn, rfl⟩ := nI_of e2
    rw [h2]
    have key : span (nI i) (nI n) sz ↔ i + n ≤ sz := by
      constructor
      · intro ⟨a, b, ea, eb, hh⟩
        have h1 := nI_inj hi (by omega) ea
        have h2 := nI_inj hn (by omega) eb
        omega
      · intro hh
        exact ⟨i, n, rfl, rfl, hh⟩
    rw [key] at q0 q2
    refine ⟨fun e => q2 ?_, fun e => ?_⟩
    · have := (nI_ltI (by omega) hn).mp e
      omega
    · have hle : n ≤ sz := by
        rcases Nat.lt_or_ge sz n with z | z
        · exact absurd (nI_lt z hn) e
        · exact z
      rw [pk_sub hle]
      refine ⟨fun e => q0 ?_, fun e => q2 ?_⟩
      · have := (nI_leI hi (by omega)).mp e
        omega
      · intro hh
        exact e (nI_le (by omega) (by omega))
theorem span1 {x : Int32} {sz : Nat} (hs : sz ≤ 40) : span x 1 sz ↔ isIx x sz := by
  constructor
  · intro ⟨i, n, ei, en, hh⟩
    have h1 : n = 1 := nI_inj (by omega) (by omega) (en.symm.trans (rfl : (1 : Int32) = nI 1))
    exact ⟨i, by omega, ei⟩
  · intro ⟨j, hj, e⟩
    exact ⟨j, 1, e, rfl, by omega⟩
theorem W9_span {M : Mem} {r : Nat} {x y : Int32} {Q : Int32 → Mem → Prop} {sz : Nat} (hr : r < 8) (h2 : M 89 r = nI sz) (hs : sz ≤ 40) : w_X9_isSpan M (nI r) x y Q ↔ Q (bI (span x y sz)) M := by
  unfold w_X9_isSpan
  by_cases e1 : x < 0
  · rw [bI_f (fun ⟨i, n, ei, _, hh⟩ => absurd (ei ▸ e1) (nI_pos (by omega)))]
    exact ⟨fun h => h.1 e1, fun h => ⟨fun _ => h, fun z => absurd e1 z⟩⟩
  · by_cases e2 : y < 0
    · rw [bI_f (fun ⟨i, n, _, en, hh⟩ => absurd (en ▸ e2) (nI_pos (by omega)))]
      exact ⟨fun h => (h.2 e1).1 e2, fun h => ⟨fun z => absurd z e1, fun _ => ⟨fun _ => h, fun z => absurd e2 z⟩⟩⟩
    · obtain ⟨i, hi, rfl⟩ := nI_of e1
      obtain ⟨n, hn, rfl⟩ := nI_of e2
      rw [ix_nat (by omega), h2, nI_l hi, nI_l hn, nI_l (by omega : sz < 2 ^ 31), lN_add, lgc_gt, pk_lLT (by omega) (by omega)]
      have key : span (nI i) (nI n) sz ↔ ¬ sz < i + n := by
        constructor
        · intro ⟨a, b, ea, eb, hh⟩
          have h1 := nI_inj hi (by omega) ea
          have h2 := nI_inj hn (by omega) eb
          omega
        · intro hh
          exact ⟨i, n, rfl, rfl, by omega⟩
      by_cases e3 : sz < i + n
      · rw [bI_f (fun z => key.mp z e3)]
        exact ⟨fun h => ((h.2 e1).2 e2).2.1 e3, fun h => ⟨fun z => absurd z e1, fun _ => ⟨fun z => absurd z e2, fun _ => ⟨vp_in_nI hr (by decide), fun _ => h, fun z => absurd e3 z⟩⟩⟩⟩
      · rw [bI_t (key.mpr e3)]
        exact ⟨fun h => ((h.2 e1).2 e2).2.2 e3, fun h => ⟨fun z => absurd z e1, fun _ => ⟨fun z => absurd z e2, fun _ => ⟨vp_in_nI hr (by decide), fun z => absurd z e3, fun _ => h⟩⟩⟩⟩
def fillM (M : Mem) (k i : Nat) (v : Int32) : Mem := va_up M k (fun j => if j < i then v else M k j)
theorem fillM_0 (M : Mem) (k : Nat) (v : Int32) : fillM M k 0 v = M := by
  funext a
  by_cases e : a = k
  · subst e; unfold fillM; rw [va_up_self]; funext b; simp
  · unfold fillM; rw [va_up_ne _ _ e]
theorem fillM_s (M : Mem) (k i : Nat) (v : Int32) : ms (fillM M k i v) k i v = fillM M k (i + 1) v := by
  funext a
  by_cases e : a = k
  · subst e
    rw [ms_at]
    unfold fillM
    rw [va_up_self, va_up_self]
    funext b
    unfold upd
    by_cases h : b = i
    · simp [h]
    · simp only [h, if_false]
      by_cases h2 : b < i
      · rw [if_pos h2, if_pos (by omega)]
      · rw [if_neg h2, if_neg (by omega)]
  · rw [ms_ne e]; unfold fillM; rw [va_up_ne _ _ e, va_up_ne _ _ e]
theorem fill_loop {k : Nat} {M : Mem} {v : Int32} {Q : Mem → Prop} (hn : ln k < 2 ^ 31) (hQ : Q (fillM M k (ln k) v)) : ∀ m i : Nat, i + m = ln k → wL_J7_fill_53178_5 k Q (m + 1) (fillM M k i v) v (nI i) (nI (ln k)) := by
  intro m
  induction m with
  | zero =>
    intro i hi
    refine ⟨fun _ => ?_, fun h => absurd (nI_le (by omega : ln k ≤ i) (by omega)) h⟩
    rw [show i = ln k by omega]; exact hQ
  | succ m ih =>
    intro i hi
    refine ⟨fun h => absurd h (nI_ge (by omega) hn), fun _ => ⟨vp_in_nI (by omega) hn, fun M3 e3 v4 e4 => ?_⟩⟩
    rw [ix_nat (by omega), fillM_s] at e3
    rw [e3, e4, nI_1]
    exact ih (i + 1) (by omega)
theorem W_fill {k : Nat} {M : Mem} {v : Int32} {Q : Mem → Prop} (hn : ln k < 2 ^ 31) (hQ : Q (fillM M k (ln k) v)) : w_J7_fill_53178 k M v Q := by
  intro v1 e1
  rw [e1]
  refine ⟨ln k + 1, ?_⟩
  have := fill_loop (Q := Q) hn hQ (ln k) 0 (by omega)
  rw [fillM_0] at this
  exact this
/-- the rows of class and reference agree -/
def IRow (M : Mem) : Prop := ∀ r : Nat, r < 8 → (M (3 + 2 * r) 1 = -1 ∧ M 89 r = -1) ∨ ∃ l z : Nat, l < 3 ∧ z ≤ 40 ∧ M (3 + 2 * r) 1 = nI l ∧ M 88 r = nI l ∧ M (3 + 2 * r) 2 = nI z ∧ M 89 r = nI z ∧ ∀ i, i < 40 → M (3 + 2 * r + 1) i = M 90 (40 * r + i)
def SRow (k j : Nat) : Prop := (3 ≤ k ∧ k ≤ 18) ∨ k = 88 ∨ k = 89 ∨ k = 90 ∨ (k = 0 ∧ j = 11) ∨ (k = 85 ∧ j = 9)
def IStat (M : Mem) : Prop := M 0 11 = M 85 9
def PRow (M : Mem) (r r2 : Int32) (M2 : Mem) : Prop := r = r2 ∧ IRow M2 ∧ IStat M2 ∧ Fr SRow M M2
theorem IRow_fr {M M2 : Mem} (h : IRow M) (hf : ∀ k j, (3 ≤ k ∧ k ≤ 18) ∨ k = 88 ∨ k = 89 ∨ k = 90 → M2 k j = M k j) : IRow M2 := by
  intro r hr
  rw [hf _ 1 (Or.inl ⟨by omega, by omega⟩), hf _ 2 (Or.inl ⟨by omega, by omega⟩), hf 89 r (by omega), hf 88 r (by omega)]
  rcases h r hr with z | ⟨l, z, h1, h2, h3, h4, h5, h6, h7⟩
  · exact Or.inl z
  · refine Or.inr ⟨l, z, h1, h2, h3, h4, h5, h6, fun i hi => ?_⟩
    rw [hf _ i (Or.inl ⟨by omega, by omega⟩), hf 90 _ (by omega)]
    exact h7 i hi
/-- a finding on both sides -/
theorem fnd2 {M : Mem} (h : IRow M) (v : Int32) : PRow M (-1000010 - v) (-1000010 - v) (ms (ms M 0 11 v) 85 9 v) := by
  refine ⟨rfl, IRow_fr h (fun k j hk => ?_), ?_, Fr_ms (Fr_ms (Fr_rf _ _) v (by simp [SRow])) v (by simp [SRow])⟩
  · rw [ms_ne (by omega), ms_ne (by omega)]
  · show ms (ms M 0 11 v) 85 9 v 0 11 = ms (ms M 0 11 v) 85 9 v 85 9
    rw [ms_eq, ms_ne (by decide), ms_eq]
/-- nothing found on both sides, behind M1 -/
theorem wel2 {M M1 : Mem} (h : IRow M1) (hf : Fr SRow M M1) (v : Int32) : PRow M v v (ms (ms M1 0 11 0) 85 9 0) := by
  refine ⟨rfl, IRow_fr h (fun k j hk => ?_), ?_, Fr_ms (Fr_ms hf 0 (by simp [SRow])) 0 (by simp [SRow])⟩
  · rw [ms_ne (by omega), ms_ne (by omega)]
  · show ms (ms M1 0 11 0) 85 9 0 0 11 = ms (ms M1 0 11 0) 85 9 0 85 9
    rw [ms_eq, ms_ne (by decide), ms_eq]
theorem bad2 {M : Mem} (h : IRow M) (hs : IStat M) (v : Int32) : PRow M v v M := ⟨rfl, h, hs, Fr_rf _ _⟩
