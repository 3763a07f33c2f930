/-! the least of all, by two numbers -/
def upd2 (st cd : Option (Nat × Nat)) : Option (Nat × Nat) := match cd with
  | none => st
  | some x => match st with
    | none => some x
    | some y => if x.1 < y.1 ∨ (x.1 = y.1 ∧ x.2 < y.2) then some x else some y
def fo (cand : Nat → Option (Nat × Nat)) : Nat → Option (Nat × Nat)
  | 0 => none
  | i + 1 => upd2 (fo cand i) (cand i)
def lxl (x y : Nat × Nat) : Prop := x.1 < y.1 ∨ (x.1 = y.1 ∧ x.2 ≤ y.2)
def LM (S : Nat × Nat → Prop) (st : Option (Nat × Nat)) : Prop := (st = none ∧ ∀ x, ¬ S x) ∨ ∃ x, st = some x ∧ S x ∧ ∀ y, S y → lxl x y
theorem fo_LM (cand : Nat → Option (Nat × Nat)) : ∀ i, LM (fun x => ∃ j, j < i ∧ cand j = some x) (fo cand i)
  | 0 => Or.inl ⟨rfl, fun x ⟨j, hj, _⟩ => absurd hj (by omega)⟩
  | i + 1 => by
    have ih := fo_LM cand i
    show LM _ (upd2 (fo cand i) (cand i))
    cases hc : cand i with
    | none =>
      show LM _ (fo cand i)
      rcases ih with ⟨h1, h2⟩ | ⟨x, h1, ⟨j, hj, ej⟩, h3⟩
      · refine Or.inl ⟨h1, fun x ⟨j, hj, ej⟩ => ?_⟩
        by_cases e : j = i
        · rw [e, hc] at ej; cases ej
        · exact h2 x ⟨j, by omega, ej⟩
      · refine Or.inr ⟨x, h1, ⟨j, by omega, ej⟩, fun y ⟨j', hj', ej'⟩ => ?_⟩
        by_cases e : j' = i
        · rw [e, hc] at ej'; cases ej'
        · exact h3 y ⟨j', by omega, ej'⟩
    | some x =>
      rcases ih with ⟨h1, h2⟩ | ⟨y, h1, ⟨j, hj, ej⟩, h3⟩
      · rw [h1]
        refine Or.inr ⟨x, rfl, ⟨i, by omega, hc⟩, fun y ⟨j', hj', ej'⟩ => ?_⟩
        by_cases e : j' = i
        · rw [e, hc] at ej'
          rw [← Option.some.inj ej']
          exact Or.inr ⟨rfl, Nat.le_refl _⟩
        · exact absurd ⟨j', by omega, ej'⟩ (h2 y)
      · rw [h1]
        show LM _ (if x.1 < y.1 ∨ (x.1 = y.1 ∧ x.2 < y.2) then some x else some y)
        by_cases hl : x.1 < y.1 ∨ (x.1 = y.1 ∧ x.2 < y.2)
        · rw [if_pos hl]
          refine Or.inr ⟨x, rfl, ⟨i, by omega, hc⟩, fun z ⟨j', hj', ej'⟩ => ?_⟩
          by_cases e : j' = i
          · rw [e, hc] at ej'
            rw [← Option.some.inj ej']
            exact Or.inr ⟨rfl, Nat.le_refl _⟩
          · have := h3 z ⟨j', by omega, ej'⟩
            unfold lxl at this ⊢
            omega
        · rw [if_neg hl]
          refine Or.inr ⟨y, rfl, ⟨j, by omega, ej⟩, fun z ⟨j', hj', ej'⟩ => ?_⟩
          by_cases e : j' = i
          · rw [e, hc] at ej'
            rw [← Option.some.inj ej']
            unfold lxl
            omega
          · exact h3 z ⟨j', by omega, ej'⟩
theorem LM_eq {S T : Nat × Nat → Prop} {st st2 : Option (Nat × Nat)} (h : LM S st) (h2 : LM T st2) (hs : ∀ x, S x → T x) (ht : ∀ y, T y → ∃ x, S x ∧ lxl x y) : st = st2 := by
  rcases h with ⟨a1, a2⟩ | ⟨x, a1, a2, a3⟩
  · rcases h2 with ⟨b1, b2⟩ | ⟨y, b1, b2, b3⟩
    · rw [a1, b1]
    · obtain ⟨x, hx, _⟩ := ht y b2
      exact absurd hx (a2 x)
  · rcases h2 with ⟨b1, b2⟩ | ⟨y, b1, b2, b3⟩
    · exact absurd (hs x a2) (b2 x)
    · have l1 := b3 x (hs x a2)
      obtain ⟨z, hz, l2⟩ := ht y b2
      have l3 := a3 z hz
      unfold lxl at l1 l2 l3
      have e1 : x.1 = y.1 := by omega
      have e2 : x.2 = y.2 := by omega
      rw [a1, b1]
      exact congrArg some (Prod.ext e1 e2)
theorem LM_iff {S T : Nat × Nat → Prop} {st : Option (Nat × Nat)} (h : LM S st) (hi : ∀ x, S x ↔ T x) : LM T st := by
  have : S = T := funext fun x => propext (hi x)
  rw [← this]; exact h
/-! figures to the base 3 -/
def rst (m : Nat) : Nat → Nat
  | 0 => m
  | j + 1 => rst m j / 3
def dig (m j : Nat) : Nat := rst m j % 3
theorem dig_lt (m j : Nat) : dig m j < 3 := Nat.mod_lt _ (by decide)
theorem rst_le (m : Nat) : ∀ j, rst m j ≤ m
  | 0 => Nat.le_refl _
  | j + 1 => Nat.le_trans (Nat.div_le_self _ _) (rst_le m j)
theorem rst_s (a m : Nat) (ha : a < 3) : ∀ j, rst (a + 3 * m) (j + 1) = rst m j
  | 0 => by
    show (a + 3 * m) / 3 = m
    omega
  | j + 1 => by
    show rst (a + 3 * m) (j + 1) / 3 = rst m j / 3
    rw [rst_s a m ha j]
theorem dig_ex : ∀ (n : Nat) (w : Nat → Nat), (∀ j, w j < 3) → ∃ m, m < 3 ^ n ∧ ∀ j, j < n → dig m j = w j
  | 0, _, _ => ⟨0, by decide, fun j hj => absurd hj (by omega)⟩
  | n + 1, w, hw => by
    obtain ⟨m, hm, h⟩ := dig_ex n (fun j => w (j + 1)) (fun j => hw (j + 1))
    have h0 := hw 0
    refine ⟨w 0 + 3 * m, ?_, fun j hj => ?_⟩
    · rw [Nat.pow_succ]; omega
    · cases j with
      | zero =>
        show (w 0 + 3 * m) % 3 = w 0
        omega
      | succ j =>
        unfold dig
        rw [rst_s _ _ h0]
        exact h j (by omega)
theorem msk_mono {p q : Nat → Bool} : ∀ n, (∀ k, k < n → p k = true → q k = true) → msk p n ≤ msk q n
  | 0, _ => Nat.le_refl _
  | n + 1, h => by
    have ih := msk_mono (p := p) (q := q) n (fun k hk => h k (by omega))
    have lp := msk_lt p n
    have lq := msk_lt q n
    rw [msk_s, msk_s]
    have hor : ∀ (r : Nat → Bool), msk r n ||| (if r n then 2 ^ n else 0) = msk r n + (if r n then 2 ^ n else 0) := by
      intro r
      have lr := msk_lt r n
      cases r n
      · simp
      · rw [if_pos rfl, Nat.or_comm]
        have := Nat.two_pow_add_eq_or_of_lt lr 1
        rw [Nat.mul_one] at this
        omega
    rw [hor, hor]
    by_cases hp : p n = true
    · rw [if_pos hp, if_pos (h n (by omega) hp)]; omega
    · rw [if_neg hp]; omega
/-! all the ways to give -/
def cst (A : Tn) (c k o : Nat) : Nat := if 20 < gft A c k o then 1000 else gft A c k o
noncomputable def mrg (A : Tn) (c d : Nat) : Int := fb_si (fun k => bv A c k * (bw A c d k : Int)) (np A)
noncomputable def a8 (A : Tn) (c d : Nat) (w : Nat → Nat) : Nat := fb_sm (fun k => if vbk A c d k then prc A c k (w k) else 0) (np A)
noncomputable def g8 (A : Tn) (c d : Nat) (w : Nat → Nat) : Nat := fb_sm (fun k => if vbk A c d k then gn A c d k (w k) else 0) (np A)
noncomputable def t8 (A : Tn) (c d : Nat) (w : Nat → Nat) : Nat := msk (fun k => vbk A c d k && decide (0 < prc A c k (w k))) (np A)
def F8 (A : Tn) (c d : Nat) (w : Nat → Nat) : Prop := (∀ k, k < np A → vbk A c d k = true → prc A c k (w k) ≤ 20) ∧ a8 A c d w ≤ 40 ∧ 1 ≤ mrg A c d + (g8 A c d w : Int)
noncomputable def e9 (A : Tn) (c d : Nat) (w : Nat → Nat) : Int := fb_si (fun k => eff A c d k (w k)) (np A)
def a9 (A : Tn) (c : Nat) (w : Nat → Nat) : Nat := fb_sm (fun k => cst A c k (w k)) (np A)
def t9 (A : Tn) (c : Nat) (w : Nat → Nat) : Nat := msk (fun k => decide (0 < gft A c k (w k))) (np A)
def F9 (A : Tn) (c d : Nat) (w : Nat → Nat) : Prop := 0 < e9 A c d w ∧ a9 A c w ≤ 40
def S8 (A : Tn) (c d : Nat) (x : Nat × Nat) : Prop := ∃ w : Nat → Nat, (∀ k, w k < 3) ∧ F8 A c d w ∧ x = (a8 A c d w, t8 A c d w)
def S9 (A : Tn) (c d : Nat) (x : Nat × Nat) : Prop := ∃ w : Nat → Nat, (∀ k, w k < 3) ∧ F9 A c d w ∧ x = (a9 A c w, t9 A c w)
section LX
variable {A : Tn} {c d : Nat}
theorem e9_sum {w : Nat → Nat} (h : ∀ k, k < np A → eff A c d k (w k) = bv A c k * (bw A c d k : Int) + ((if vbk A c d k then gn A c d k (w k) else 0 : Nat) : Int)) : e9 A c d w = mrg A c d + (g8 A c d w : Int) := by
  unfold e9 mrg g8
  rw [← fb_si_nat, ← fb_si_add]
  exact fb_si_cong h
theorem S89 (hV : V A) (x : Nat × Nat) (h : S8 A c d x) : S9 A c d x := by
  obtain ⟨w, hw, ⟨f1, f2, f3⟩, ex⟩ := h
  have hk : ∀ k, k < np A → (vbk A c d k = true → gft A c k (if vbk A c d k then w k else 0) = prc A c k (w k)) ∧ (¬ vbk A c d k = true → gft A c k (if vbk A c d k then w k else 0) = 0) := by
    intro k hk
    refine ⟨fun z => ?_, fun z => ?_⟩
    · rw [if_pos z]; exact (prc_gft z (hw k) (f1 k hk z)).1.symm
    · rw [if_neg z, gft_0]
  have ea : a9 A c (fun k => if vbk A c d k then w k else 0) = a8 A c d w := by
    unfold a9 a8
    refine fb_sm_cong (fun k hkn => ?_)
    unfold cst
    by_cases z : vbk A c d k = true
    · rw [(hk k hkn).1 z, if_pos z, if_neg (by have := f1 k hkn z; omega)]
    · rw [(hk k hkn).2 z, if_neg z, if_neg (by decide)]
  have et : t9 A c (fun k => if vbk A c d k then w k else 0) = t8 A c d w := by
    unfold t9 t8
    refine msk_cong (fun k hkn => ?_)
    by_cases z : vbk A c d k = true
    · rw [(hk k hkn).1 z, z, Bool.true_and]
    · rw [(hk k hkn).2 z, Bool.eq_false_iff.mpr z, Bool.false_and]
      rfl
  refine ⟨fun k => if vbk A c d k then w k else 0, fun k => ?_, ⟨?_, by rw [ea]; exact f2⟩, by rw [ex, ea, et]⟩
  · show (if vbk A c d k then w k else 0) < 3
    split
    · exact hw k
    · decide
  · rw [e9_sum (fun k hkn => ?_)]
    · have : g8 A c d (fun k => if vbk A c d k then w k else 0) = g8 A c d w := by
        unfold g8
        refine fb_sm_cong (fun k _ => ?_)
        by_cases z : vbk A c d k = true
        · rw [if_pos z, if_pos z]
          show gn A c d k (if vbk A c d k then w k else 0) = _
          rw [if_pos z]
        · rw [if_neg z, if_neg z]
      rw [this]
      omega
    · by_cases z : vbk A c d k = true
      · rw [if_pos z, if_pos z]
        exact (prc_gft z (hw k) (f1 k hkn z)).2
      · rw [if_neg z, if_neg z, eff_0]
        simp
theorem S98 (hV : V A) (hd : d < nd A) (y : Nat × Nat) (h : S9 A c d y) : ∃ x, S8 A c d x ∧ lxl x y := by
  obtain ⟨w, hw, ⟨f1, f2⟩, ey⟩ := h
  have hg : ∀ k, k < np A → gft A c k (w k) ≤ 20 ∧ cst A c k (w k) = gft A c k (w k) := by
    intro k hk
    have h1 := fb_sm_part (fun k => cst A c k (w k)) hk
    unfold a9 at f2
    have h2 : cst A c k (w k) ≤ 40 := by omega
    unfold cst at h2 ⊢
    by_cases z : 20 < gft A c k (w k)
    · rw [if_pos z] at h2; omega
    · rw [if_neg z]; exact ⟨by omega, rfl⟩
  have hq : ∀ k, (@ite Nat (vbk A c d k = true ∧ (w k ≠ 1 ∨ bv A c k = -1)) (Classical.propDecidable _) (w k) 0 = w k ∧ vbk A c d k = true ∧ (w k ≠ 1 ∨ bv A c k = -1)) ∨ (@ite Nat (vbk A c d k = true ∧ (w k ≠ 1 ∨ bv A c k = -1)) (Classical.propDecidable _) (w k) 0 = 0 ∧ (vbk A c d k = false ∨ (w k = 1 ∧ ¬ bv A c k = -1))) := by
    intro k
    by_cases z : vbk A c d k = true ∧ (w k ≠ 1 ∨ bv A c k = -1)
    · exact Or.inl ⟨@if_pos _ (Classical.propDecidable _) z _ _ _, z⟩
    · refine Or.inr ⟨@if_neg _ (Classical.propDecidable _) z _ _ _, ?_⟩
      cases hv : vbk A c d k with
      | false => exact Or.inl rfl
      | true =>
        refine Or.inr ?_
        refine ⟨Classical.byContradiction (fun e => z ⟨hv, Or.inl e⟩), fun e => z ⟨hv, Or.inr e⟩⟩
  generalize hu : (fun k => @ite Nat (vbk A c d k = true ∧ (w k ≠ 1 ∨ bv A c k = -1)) (Classical.propDecidable _) (w k) 0) = u
  have hq : ∀ k, (u k = w k ∧ vbk A c d k = true ∧ (w k ≠ 1 ∨ bv A c k = -1)) ∨ (u k = 0 ∧ (vbk A c d k = false ∨ (w k = 1 ∧ ¬ bv A c k = -1))) := by
    intro k
    rw [← hu]
    exact hq k
  have hu3 : ∀ k, u k < 3 := fun k => by
    rcases hq k with z | z
    · rw [z.1]; exact hw k
    · rw [z.1]; decide
  have hp : ∀ k, k < np A → vbk A c d k = true → prc A c k (u k) ≤ gft A c k (w k) := by
    intro k hk hv
    rcases hq k with ⟨z1, z2, z3⟩ | ⟨z1, z2⟩
    · rw [z1]
      have := hw k
      unfold prc
      rcases (by omega : w k = 0 ∨ w k = 1 ∨ w k = 2) with e | e | e <;> rw [e]
      · rw [if_pos rfl]; exact Nat.zero_le _
      · rw [if_neg (by decide), if_pos rfl, if_pos (z3.resolve_left (fun h => h e))]
        exact Nat.le_refl _
      · rw [if_neg (by decide), if_neg (by decide)]
        exact Nat.le_refl _
    · rw [z1]
      unfold prc
      rw [if_pos rfl]
      exact Nat.zero_le _
  have hp20 : ∀ k, k < np A → vbk A c d k = true → prc A c k (u k) ≤ 20 := fun k hk hv => Nat.le_trans (hp k hk hv) (hg k hk).1
  have heff : ∀ k, k < np A → eff A c d k (u k) = eff A c d k (w k) := by
    intro k hk
    rcases hq k with ⟨z1, z2⟩ | ⟨z1, z2⟩
    · rw [z1]
    · rw [z1]
      exact way_less (hw k) (bw_le hV hk hd) z2
  have es : e9 A c d w = mrg A c d + (g8 A c d u : Int) := by
    rw [← e9_sum (fun k hk => ?_)]
    · unfold e9
      exact fb_si_cong (fun k hk => (heff k hk).symm)
    · by_cases z : vbk A c d k = true
      · rw [if_pos z]
        exact (prc_gft z (hu3 k) (hp20 k hk z)).2
      · rw [if_neg z]
        rcases hq k with ⟨z1, z2, z3⟩ | ⟨z1, z2⟩
        · exact absurd z2 z
        · rw [z1, eff_0]
          simp
  have la : a8 A c d u ≤ a9 A c w := by
    unfold a8 a9
    refine fb_sm_le (fun k hk => ?_)
    rw [(hg k hk).2]
    by_cases z : vbk A c d k = true
    · rw [if_pos z]; exact hp k hk z
    · rw [if_neg z]; exact Nat.zero_le _
  have lt : t8 A c d u ≤ t9 A c w := by
    unfold t8 t9
    refine msk_mono _ (fun k hk h => ?_)
    rw [Bool.and_eq_true, decide_eq_true_iff] at h
    have := hp k hk h.1
    exact decide_eq_true (by omega)
  refine ⟨(a8 A c d u, t8 A c d u), ⟨u, hu3, ⟨hp20, by omega, by rw [← es]; omega⟩, rfl⟩, ?_⟩
  rw [ey]
  unfold lxl
  show a8 A c d u < a9 A c w ∨ (a8 A c d u = a9 A c w ∧ t8 A c d u ≤ t9 A c w)
  omega
end LX
