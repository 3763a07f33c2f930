/-! least gifts: the numbers -/
def lx (A : Tn) (c k : Nat) : Int := (lean A k c).toInt
theorem lx_b {A : Tn} {c k : Nat} (hV : V A) (hk : k < np A) : -21 ≤ lx A c k ∧ lx A c k ≤ 17 := by
  obtain ⟨-, -, -, -, -, e5, l5, g1, g2, -⟩ := hV.2.2.1 k hk
  unfold lx lean
  have t5 : (A 5 k).toInt = (na A 5 k : Int) := by rw [e5, nI_toInt (by omega)]
  have t3 : (3 : Int32).toInt = 3 := by decide
  have s1 : (A 5 k - 3).toInt = (na A 5 k : Int) - 3 := by rw [fb_subI (by omega) (by omega)]; omega
  have s2 : (A 5 k - 3 + A 6 k).toInt = (na A 5 k : Int) - 3 + (A 6 k).toInt := by rw [fb_addI (by omega) (by omega)]; omega
  have i5 : (if bitv (A 7 k) c = 0 then (0 : Int32) else 5).toInt = 0 ∨ (if bitv (A 7 k) c = 0 then (0 : Int32) else 5).toInt = 5 := by
    split
    · exact Or.inl (by decide)
    · exact Or.inr (by decide)
  have i9 : (if bitv (A 8 k) c = 0 then (0 : Int32) else -9).toInt = 0 ∨ (if bitv (A 8 k) c = 0 then (0 : Int32) else -9).toInt = -9 := by
    split
    · exact Or.inl (by decide)
    · exact Or.inr (by decide)
  generalize (if bitv (A 7 k) c = 0 then (0 : Int32) else 5) = z5 at i5
  generalize (if bitv (A 8 k) c = 0 then (0 : Int32) else -9) = z9 at i9
  have s3 : (A 5 k - 3 + A 6 k + z5).toInt = (na A 5 k : Int) - 3 + (A 6 k).toInt + z5.toInt := by rw [fb_addI (by omega) (by omega)]; omega
  have s4 : (A 5 k - 3 + A 6 k + z5 + z9).toInt = (na A 5 k : Int) - 3 + (A 6 k).toInt + z5.toInt + z9.toInt := by rw [fb_addI (by omega) (by omega)]; omega
  omega
section GN
variable {A : Tn} {c d k : Nat}
/-- how the vote comes of the leaning -/
theorem bv_lx (hk : k ≠ c) : (bv A c k = 1 ↔ 0 < lx A c k) ∧ (bv A c k = -1 ↔ lx A c k < 0 ∧ ¬ na A 3 k = 5) := by
  have e : bv A c k = vt A k c := by unfold bv; rw [if_neg hk]
  rw [e, ← (fv_vt A k c).1, ← (fv_vt A k c).2]
  unfold fv lx
  by_cases h : na A 3 k = 5 ∧ lean A k c < 0
  · rw [if_pos h]
    have h2 := h.2
    rw [fa_lt] at h2
    have z0 : (0 : Int32).toInt = 0 := by decide
    refine ⟨⟨fun z => absurd z (by decide), fun z => by omega⟩, ⟨fun z => absurd z (by decide), fun z => absurd h.1 z.2⟩⟩
  · rw [if_neg h, fa_lt, fa_lt]
    have z0 : (0 : Int32).toInt = 0 := by decide
    refine ⟨by rw [z0], ⟨fun z => ⟨by omega, fun y => h ⟨y, by rw [fa_lt]; exact z⟩⟩, fun z => by omega⟩⟩
/-- gifts for way o, and what k's vote is worth then -/
def gft (A : Tn) (c k o : Nat) : Nat := if k = c then 0 else if o = 0 then 0 else ((o : Int) - 1 - lx A c k).toNat
noncomputable def eff (A : Tn) (c d k o : Nat) : Int := if k = c then 0 else if 0 < lx A c k + (gft A c k o : Int) then (bw A c d k : Int) else if lx A c k + (gft A c k o : Int) < 0 ∧ ¬ na A 3 k = 5 then -(bw A c d k : Int) else 0
noncomputable def vbk (A : Tn) (c d k : Nat) : Bool := decide (0 < bw A c d k) && decide (bv A c k ≤ 0)
def prc (A : Tn) (c k o : Nat) : Nat := if o = 0 then 0 else if o = 1 then (if bv A c k = -1 then gft A c k 1 else 21) else gft A c k 2
noncomputable def gn (A : Tn) (c d k o : Nat) : Nat := if o = 0 then 0 else if o = 1 then bw A c d k else if bv A c k = -1 then 2 * bw A c d k else bw A c d k
theorem vbk_t : vbk A c d k = true ↔ 0 < bw A c d k ∧ bv A c k ≤ 0 := by
  unfold vbk
  rw [Bool.and_eq_true, decide_eq_true_iff, decide_eq_true_iff]
theorem vbk_c (h : vbk A c d k = true) : k ≠ c := by
  intro e
  have := (vbk_t.mp h).1
  unfold bw at this
  rw [if_pos e] at this
  omega
/-- the three cases of a voter who isn't for c -/
theorem vbk_l (h : vbk A c d k = true) : (bv A c k = -1 ∧ lx A c k < 0 ∧ ¬ na A 3 k = 5) ∨ (bv A c k = 0 ∧ lx A c k = 0) ∨ (bv A c k = 0 ∧ lx A c k < 0 ∧ na A 3 k = 5) := by
  have hc := vbk_c h
  have h2 := (vbk_t.mp h).2
  obtain ⟨g1, g2⟩ := bv_lx (A := A) hc
  rcases bv_3 A c k with z | z | z
  · omega
  · exact Or.inl ⟨z, g2.mp z⟩
  · have n1 : ¬ 0 < lx A c k := fun e => by have := g1.mpr e; omega
    by_cases e : lx A c k = 0
    · exact Or.inr (Or.inl ⟨z, e⟩)
    · refine Or.inr (Or.inr ⟨z, by omega, ?_⟩)
      refine Classical.byContradiction (fun hn => ?_)
      have := g2.mpr ⟨by omega, hn⟩
      omega
theorem eff_0 : eff A c d k 0 = bv A c k * (bw A c d k : Int) := by
  unfold eff gft
  by_cases hc : k = c
  · rw [if_pos hc]
    unfold bw
    rw [if_pos hc]
    simp
  · obtain ⟨g1, g2⟩ := bv_lx (A := A) hc
    rw [if_neg hc, if_neg hc, if_pos rfl]
    simp only [Int.ofNat_zero, Int.add_zero]
    by_cases z1 : 0 < lx A c k
    · rw [if_pos (by omega), g1.mpr z1, Int.one_mul]
    · rw [if_neg (by omega)]
      by_cases z2 : lx A c k < 0 ∧ ¬ na A 3 k = 5
      · rw [if_pos ⟨by omega, z2.2⟩, g2.mpr z2]
        omega
      · rw [if_neg (fun e => z2 ⟨by omega, e.2⟩)]
        have : bv A c k = 0 := by
          rcases bv_3 A c k with z | z | z
          · exact absurd (g1.mp z) z1
          · exact absurd (g2.mp z) z2
          · exact z
        rw [this, Int.zero_mul]
theorem gft_0 : gft A c k 0 = 0 := by
  unfold gft
  split
  · rfl
  · rw [if_pos rfl]
theorem gft_s (hc : k ≠ c) {o : Nat} (ho : o ≠ 0) : gft A c k o = ((o : Int) - 1 - lx A c k).toNat := by
  unfold gft
  rw [if_neg hc, if_neg ho]
/-- a voter's price is its gifts, where it can be paid -/
theorem prc_gft (h : vbk A c d k = true) {o : Nat} (ho : o < 3) (hp : prc A c k o ≤ 20) : prc A c k o = gft A c k o ∧ eff A c d k o = bv A c k * (bw A c d k : Int) + (gn A c d k o : Int) := by
  have hc := vbk_c h
  rcases (by omega : o = 0 ∨ o = 1 ∨ o = 2) with e | e | e <;> subst e
  · rw [gft_0, eff_0]
    unfold prc gn
    rw [if_pos rfl, if_pos rfl]
    exact ⟨rfl, by omega⟩
  · unfold prc at hp ⊢
    rw [if_neg (by decide), if_pos rfl] at hp ⊢
    by_cases z : bv A c k = -1
    · rw [if_pos z]
      refine ⟨rfl, ?_⟩
      obtain ⟨-, l1, l2⟩ | h0 | h0 := vbk_l h
      · unfold eff gn
        rw [if_neg hc, gft_s hc (by decide), if_neg (by omega), if_neg (by omega), if_neg (by decide), if_pos rfl, z]
        omega
      · omega
      · omega
    · rw [if_neg z] at hp
      omega
  · unfold prc
    rw [if_neg (by decide), if_neg (by decide)]
    refine ⟨rfl, ?_⟩
    have hg : gn A c d k 2 = if bv A c k = -1 then 2 * bw A c d k else bw A c d k := by
      unfold gn
      rw [if_neg (by decide), if_neg (by decide)]
    rw [hg]
    unfold eff
    rw [if_neg hc, gft_s hc (by decide)]
    obtain ⟨l0, l1, l2⟩ | ⟨l0, l1⟩ | ⟨l0, l1, l2⟩ := vbk_l h
    · rw [if_pos (by omega), l0, if_pos rfl]
      omega
    · rw [if_pos (by omega), l0, if_neg (by decide)]
      omega
    · rw [if_pos (by omega), l0, if_neg (by decide)]
      omega
theorem prc_0 (h : vbk A c d k = true) {o : Nat} (ho : o < 3) (hp : prc A c k o = 0) : gn A c d k o = 0 := by
  have hc := vbk_c h
  rcases (by omega : o = 0 ∨ o = 1 ∨ o = 2) with e | e | e <;> subst e
  · unfold gn; rw [if_pos rfl]
  · unfold prc at hp
    rw [if_neg (by decide), if_pos rfl] at hp
    by_cases z : bv A c k = -1
    · rw [if_pos z, gft_s hc (by decide)] at hp
      obtain ⟨-, l1, l2⟩ | h0 | h0 := vbk_l h
      · omega
      · omega
      · omega
    · rw [if_neg z] at hp; omega
  · unfold prc at hp
    rw [if_neg (by decide), if_neg (by decide), gft_s hc (by decide)] at hp
    obtain ⟨-, l1, l2⟩ | ⟨l0, l1⟩ | ⟨l0, l1, l2⟩ := vbk_l h
    · omega
    · omega
    · omega
/-- no other gift helps -/
theorem way_less {o : Nat} (ho : o < 3) (hW : bw A c d k ≤ 108) (h : vbk A c d k = false ∨ (o = 1 ∧ ¬ bv A c k = -1)) : eff A c d k 0 = eff A c d k o := by
  by_cases hc : k = c
  · unfold eff; rw [if_pos hc, if_pos hc]
  · obtain ⟨g1, g2⟩ := bv_lx (A := A) hc
    by_cases eo : o = 0
    · rw [eo]
    · by_cases hw : bw A c d k = 0
      · unfold eff
        rw [if_neg hc, if_neg hc, hw]
        simp
      · rw [eff_0]
        unfold eff
        rw [if_neg hc, gft_s hc eo]
        rcases bv_3 A c k with z | z | z
        · have := g1.mp z
          rw [if_pos (by omega), z, Int.one_mul]
        · exfalso
          rcases h with h | h
          · have : vbk A c d k = true := vbk_t.mpr ⟨by omega, by omega⟩
            rw [this] at h
            exact absurd h (by decide)
          · exact h.2 z
        · have n1 : ¬ 0 < lx A c k := fun e => by have := g1.mpr e; omega
          have n2 : ¬ (lx A c k < 0 ∧ ¬ na A 3 k = 5) := fun e => by have := g2.mpr e; omega
          rcases h with h | h
          · have : vbk A c d k = true := vbk_t.mpr ⟨by omega, by omega⟩
            rw [this] at h
            exact absurd h (by decide)
          · rw [h.1, if_neg (by omega), if_neg (by omega), z, Int.zero_mul]
end GN
