section OK
variable {t : Nat → Int32} {L : Nat}
theorem Rs_r {k k2 : Nat} {B B2 : NT} (e : (Sum.inr (k, B) : Rs) = Sum.inr (k2, B2)) : k = k2 ∧ B = B2 := by
  injection e with e
  injection e with e1 e2
  exact ⟨e1, e2⟩
theorem laS_ok {k : Nat} {B : NT} (e : laS t L = .inr (k, B)) : k ≤ L ∧ GB B ∧ B 0 2 = 0 ∧ B 0 3 = 0 ∧ B 0 4 = 0 := by
  by_cases hs : 0 < L ∧ t 0 = 104
  · cases e1 : pa t L 1 2 6 no1 44 with
    | inl x => rw [laS_1 hs e1] at e; cases e
    | inr x =>
      obtain ⟨a, j⟩ := x
      cases e2 : pa t L j 0 9 no1 59 with
      | inl x => rw [laS_2 hs e1 e2] at e; cases e
      | inr x =>
        obtain ⟨b, k1⟩ := x
        rw [laS_3 hs e1 e2] at e
        obtain ⟨z1, z2⟩ := Rs_r e
        subst z1 z2
        have b1 := pa_r e1
        have b2 := pa_r e2
        obtain ⟨v1, v2, v3, v4⟩ := B0_v a b
        exact ⟨b2.2.2.2, GB_0 b1.1 b1.2.1 b2.2.1, v3 2 (by decide), v3 3 (by decide), v3 4 (by decide)⟩
  · rw [laS_x hs] at e; cases e
theorem drS_ok : ∀ (n i : Nat) (B : NT) (k : Nat) (B2 : NT), GB B → i ≤ L → drS t L n i B = .inr (k, B2) → k ≤ L ∧ GB B2 ∧ B2 0 3 = B 0 3 ∧ B2 0 4 = B 0 4 ∧ B 0 2 ≤ B2 0 2 ∧ (0 < n → (i < L ∧ t i = 100) → B 0 2 < B2 0 2) := by
  intro n
  induction n with
  | zero =>
    intro i B k B2 hG hi e
    obtain ⟨z1, z2⟩ := Rs_r ((show drS t L 0 i B = .inr (i, B) from rfl).symm.trans e)
    subst z1 z2
    exact ⟨hi, hG, rfl, rfl, Nat.le_refl _, fun z => absurd z (by omega)⟩
  | succ n ih =>
    intro i B k B2 hG hi e
    have hB := hG.1
    by_cases hs : i < L ∧ t i = 100
    · by_cases h6 : B 0 2 = 6
      · rw [drS_6 hs h6] at e; cases e
      · cases e1 : pa t L (i + 1) 0 (B 0 0 - 1) no1 44 with
        | inl x => rw [drS_1 hs h6 e1] at e; cases e
        | inr x =>
          obtain ⟨a, j⟩ := x
          cases e2 : pa t L j 0 (B 0 0 - 1) (fun v => decide (v = a)) 59 with
          | inl x => rw [drS_2 hs h6 e1 e2] at e; cases e
          | inr x =>
            obtain ⟨b, k1⟩ := x
            rw [drS_3 hs h6 e1 e2] at e
            have b1 := pa_r e1
            have b2 := pa_r e2
            have v := adD_v B a b
            obtain ⟨r1, r2, r3, r4, r5, -⟩ := ih k1 (adD B a b) k B2 (GB_D hG (by omega) (by omega) (by omega) (of_decide_eq_false b2.2.2.1)) b2.2.2.2 e
            rw [v.2.1 3 (by decide)] at r3
            rw [v.2.1 4 (by decide)] at r4
            rw [v.1] at r5
            exact ⟨r1, r2, r3, r4, by omega, fun _ _ => by omega⟩
    · rw [drS_x hs] at e
      obtain ⟨z1, z2⟩ := Rs_r e
      subst z1 z2
      exact ⟨hi, hG, rfl, rfl, Nat.le_refl _, fun _ z => absurd z hs⟩
theorem peS_ok : ∀ (n i : Nat) (B : NT) (k : Nat) (B2 : NT), GB B → i ≤ L → peS t L n i B = .inr (k, B2) → k ≤ L ∧ GB B2 ∧ B2 0 2 = B 0 2 ∧ B2 0 4 = B 0 4 ∧ B 0 3 ≤ B2 0 3 ∧ (0 < n → (i < L ∧ kL (t i) ≠ 0) → B 0 3 < B2 0 3) := by
  intro n
  induction n with
  | zero =>
    intro i B k B2 hG hi e
    obtain ⟨z1, z2⟩ := Rs_r ((show peS t L 0 i B = .inr (i, B) from rfl).symm.trans e)
    subst z1 z2
    exact ⟨hi, hG, rfl, rfl, Nat.le_refl _, fun z => absurd z (by omega)⟩
  | succ n ih =>
    intro i B k B2 hG hi e
    have hB := hG.1
    by_cases hs : i < L ∧ kL (t i) ≠ 0
    · by_cases h6 : B 0 3 = 6
      · rw [peS_6 hs h6] at e; cases e
      · cases e1 : pa t L (i + 1) 0 (B 0 0 - 1) no1 44 with
        | inl x => rw [peS_1 hs h6 e1] at e; cases e
        | inr x =>
          obtain ⟨a, j⟩ := x
          cases e2 : pa t L j 0 6 no1 59 with
          | inl x => rw [peS_2 hs h6 e1 e2] at e; cases e
          | inr x =>
            obtain ⟨b, k1⟩ := x
            rw [peS_3 hs h6 e1 e2] at e
            have b1 := pa_r e1
            have b2 := pa_r e2
            have k5 := kL_5 (t i)
            have v := adP_v B (kL (t i)) a b
            obtain ⟨r1, r2, r3, r4, r5, -⟩ := ih k1 (adP B (kL (t i)) a b) k B2 (GB_P hG (by omega) (by omega) k5 (by omega) b2.2.1) b2.2.2.2 e
            rw [v.2.1 2 (by decide)] at r3
            rw [v.2.1 4 (by decide)] at r4
            rw [v.1] at r5
            exact ⟨r1, r2, r3, r4, by omega, fun _ _ => by omega⟩
    · rw [peS_x hs] at e
      obtain ⟨z1, z2⟩ := Rs_r e
      subst z1 z2
      exact ⟨hi, hG, rfl, rfl, Nat.le_refl _, fun _ z => absurd z hs⟩
theorem tiS_ok : ∀ (n i : Nat) (B : NT) (k : Nat) (B2 : NT), GB B → i ≤ L → tiS t L n i B = .inr (k, B2) → k ≤ L ∧ GB B2 ∧ B2 0 2 = B 0 2 ∧ B2 0 3 = B 0 3 := by
  intro n
  induction n with
  | zero =>
    intro i B k B2 hG hi e
    obtain ⟨z1, z2⟩ := Rs_r ((show tiS t L 0 i B = .inr (i, B) from rfl).symm.trans e)
    subst z1 z2
    exact ⟨hi, hG, rfl, rfl⟩
  | succ n ih =>
    intro i B k B2 hG hi e
    have hB := hG.1
    by_cases hs : i < L
    · by_cases h2 : t i = 105 ∨ t i = 117
      · by_cases h6 : B 0 4 = 8
        · rw [tiS_6 hs h2 h6] at e; cases e
        · cases e1 : pa t L (i + 1) 0 (B 0 3 - 1) no1 44 with
          | inl x => rw [tiS_1 hs h2 h6 e1] at e; cases e
          | inr x =>
            obtain ⟨a, j⟩ := x
            cases e2 : pa t L j 0 (B 0 3 - 1) (tiB B a) 59 with
            | inl x => rw [tiS_2 hs h2 h6 e1 e2] at e; cases e
            | inr x =>
              obtain ⟨b, k1⟩ := x
              rw [tiS_3 hs h2 h6 e1 e2] at e
              have b1 := pa_r e1
              have b2 := pa_r e2
              have hne := (tiB_f.mp b2.2.2.1).1
              have hf : (if t i = 105 then 7 else 8) = 7 ∨ (if t i = 105 then 7 else 8) = 8 := by
                by_cases y : t i = 105
                · rw [if_pos y]; exact Or.inl rfl
                · rw [if_neg y]; exact Or.inr rfl
              generalize (if t i = 105 then 7 else 8) = f at hf e
              have v := adT_v B (f := f) (a := a) (b := b) (by omega)
              obtain ⟨r1, r2, r3, r4⟩ := ih k1 (adT B f a b) k B2 (GB_T hG (by omega) hf (by omega) (by omega)) b2.2.2.2 e
              rw [v.2.1 2 (by decide)] at r3
              rw [v.2.1 3 (by decide)] at r4
              exact ⟨r1, r2, r3, r4⟩
      · rw [tiS_0 hs h2] at e; cases e
    · rw [tiS_x hs] at e
      obtain ⟨z1, z2⟩ := Rs_r e
      subst z1 z2
      exact ⟨hi, hG, rfl, rfl⟩
theorem dr0_ok {k k2 : Nat} {B B2 : NT} (hG : GB B) (hk : k ≤ L) (e : dr0 t L k B = .inr (k2, B2)) : k2 ≤ L ∧ GB B2 ∧ B2 0 3 = B 0 3 ∧ B2 0 4 = B 0 4 ∧ 0 < B2 0 2 := by
  unfold dr0 at e
  by_cases hs : k < L ∧ t k = 100
  · rw [if_pos hs] at e
    obtain ⟨r1, r2, r3, r4, -, r6⟩ := drS_ok 7 k B k2 B2 hG hk e
    have := r6 (by decide) hs
    exact ⟨r1, r2, r3, r4, by omega⟩
  · rw [if_neg hs] at e; cases e
theorem pe0_ok {k k2 : Nat} {B B2 : NT} (hG : GB B) (hk : k ≤ L) (e : pe0 t L k B = .inr (k2, B2)) : k2 ≤ L ∧ GB B2 ∧ B2 0 2 = B 0 2 ∧ B2 0 4 = B 0 4 ∧ 0 < B2 0 3 := by
  unfold pe0 at e
  by_cases hs : k < L ∧ kL (t k) ≠ 0
  · rw [if_pos hs] at e
    obtain ⟨r1, r2, r3, r4, -, r6⟩ := peS_ok 7 k B k2 B2 hG hk e
    have := r6 (by decide) hs
    exact ⟨r1, r2, r3, r4, by omega⟩
  · rw [if_neg hs] at e; cases e
end OK
/-- all that a TOWN's text says -/
def twS (t : Nat → Int32) (L : Nat) : Rs := match laS t L with
  | .inl e => .inl e
  | .inr (k, B) => match dr0 t L k B with
    | .inl e => .inl e
    | .inr (k2, B2) => match pe0 t L k2 B2 with
      | .inl e => .inl e
      | .inr (k3, B3) => tiS t L 9 k3 B3
section TWS
variable {t : Nat → Int32} {L k k2 k3 : Nat} {B B2 B3 : NT} {e : Nat × Nat}
theorem twS_1 (e1 : laS t L = .inl e) : twS t L = .inl e := by simp only [twS, e1]
theorem twS_2 (e1 : laS t L = .inr (k, B)) (e2 : dr0 t L k B = .inl e) : twS t L = .inl e := by simp only [twS, e1, e2]
theorem twS_3 (e1 : laS t L = .inr (k, B)) (e2 : dr0 t L k B = .inr (k2, B2)) (e3 : pe0 t L k2 B2 = .inl e) : twS t L = .inl e := by simp only [twS, e1, e2, e3]
theorem twS_4 (e1 : laS t L = .inr (k, B)) (e2 : dr0 t L k B = .inr (k2, B2)) (e3 : pe0 t L k2 B2 = .inr (k3, B3)) : twS t L = tiS t L 9 k3 B3 := by simp only [twS, e1, e2, e3]
end TWS
theorem twS_ok {t : Nat → Int32} {L k : Nat} {B : NT} (e : twS t L = .inr (k, B)) : GB B ∧ 0 < B 0 2 ∧ 0 < B 0 3 := by
  cases e1 : laS t L with
  | inl x => rw [twS_1 e1] at e; cases e
  | inr x =>
    obtain ⟨k1, B1⟩ := x
    obtain ⟨a1, a2, a3, a4, a5⟩ := laS_ok e1
    cases e2 : dr0 t L k1 B1 with
    | inl x => rw [twS_2 e1 e2] at e; cases e
    | inr x =>
      obtain ⟨k2, B2⟩ := x
      obtain ⟨b1, b2, b3, b4, b5⟩ := dr0_ok a2 a1 e2
      cases e3 : pe0 t L k2 B2 with
      | inl x => rw [twS_3 e1 e2 e3] at e; cases e
      | inr x =>
        obtain ⟨k3, B3⟩ := x
        obtain ⟨c1, c2, c3, c4, c5⟩ := pe0_ok b2 b1 e3
        rw [twS_4 e1 e2 e3] at e
        obtain ⟨d1, d2, d3, d4⟩ := tiS_ok 9 k3 B3 k B c2 c1 e
        exact ⟨d2, by omega, by omega⟩
section CRD
variable {t : Nat → Int32} {L : Nat} {Q : Int32 → Mem → Prop}
theorem C_read {M : Mem} (hL : L ≤ 120) (h1 : M 19 1 = nI L) (ht : ∀ x, x < L → M 20 x = t x) (q0 : ∀ f p, twS t L = .inl (f, p) → ∀ M1, Fr S3r M M1 → M1 19 2 = nI p → M1 19 3 = nI f → Q 0 M1) (q1 : ∀ k B, twS t L = .inr (k, B) → ∀ M1, Fr S3r M M1 → RCp M1 B → Q 1 M1) : w_X3_readInto 52 M Q := by
  unfold w_X3_readInto
  intro M1 e1
  have f1 : Fr S3r M M1 := by rw [e1]; exact S3_r (Fr_ms (Fr_rf _ _) _ ⟨rfl, by decide⟩)
  have h0 : TC M1 t L 0 := by
    rw [e1]
    exact ⟨by rw [ms_ne2 (by decide), h1], fun x hx => by rw [ms_ne (by decide), ht x hx], by rw [ms_eq]; rfl⟩
  refine C_law hL h0 (fun f p e M2 g1 g2 g3 => ⟨fun _ => q0 f p (twS_1 e) M2 (Fr_tr f1 g1) g2 g3, fun z => absurd rfl z⟩) (fun k B el hk hG hb2 hb3 M2 g1 g2 g3 => ⟨fun z => absurd z (by decide), fun _ => ?_⟩)
  have a5 := (laS_ok el).2.2.2.2
  have f2 := Fr_tr f1 g1
  refine C_dr hL g2 hk hG g3 hb2 (fun f p e M5 k1 k2 k3 => ⟨fun _ => q0 f p (twS_2 el e) M5 (Fr_tr f2 k1) k2 k3, fun z => absurd rfl z⟩) (fun k2 B2 ed M5 k1 kk2 k3 => ⟨fun z => absurd z (by decide), fun _ => ?_⟩)
  obtain ⟨b1, b2, b3, b4, b5⟩ := dr0_ok hG hk ed
  have f5 := Fr_tr f2 k1
  refine C_pe hL kk2 b1 b2 k3 (by omega) (fun f p e M8 j1 j2 j3 => ⟨fun _ => q0 f p (twS_3 el ed e) M8 (Fr_tr f5 j1) j2 j3, fun z => absurd rfl z⟩) (fun k3' B3 ep M8 j1 j2 j3 => ⟨fun z => absurd z (by decide), fun _ => ?_⟩)
  obtain ⟨c1, c2, c3, c4, c5⟩ := pe0_ok b2 b1 ep
  have f8 := Fr_tr f5 j1
  have e4 := twS_4 el ed ep
  refine ⟨9, C_ties hL 9 k3' B3 M8 j2 c1 c2 c5 j3 (by omega) (fun f p e M11 i1 i2 i3 => ⟨fun _ => q0 f p (e4.trans e) M11 (Fr_tr f8 i1) i2 i3, fun z => absurd rfl z⟩) (fun k4 B4 e M11 i1 i2 i3 => ⟨fun z => absurd z (by decide), fun _ => q1 k4 B4 (e4.trans e) M11 (Fr_tr f8 i1) i3⟩)⟩
end CRD
