/-- the class takes the last ACT back -/
theorem W0_back {M : Mem} {nx n : Nat} {Q : Mem → Prop} (hn : 0 < n) (hn24 : n ≤ 24) (hx : nx < 24) (h5 : M 21 5 = nI nx) (h6 : M 21 6 = nI n) (hV : V (cv M 41)) (hE : EOkR M (pos nx 0) (cv M 41)) (q : ∀ M1, cv M1 41 = uR M (pos nx 0) (cv M 41) → M1 21 5 = nI (pos nx 0) → M1 21 6 = nI (n - 1) → (∀ k j, (22 ≤ k ∧ k ≤ 26) → M1 k j = M k j) → Fr SC M M1 → Q M1) : w_X0_takeBack 41 M Q := by
  have hpos : pos nx 0 = (nx + 23) % 24 := by unfold pos; omega
  have hp24 : pos nx 0 < 24 := by rw [hpos]; omega
  have ev : nI nx + 24 - 1 - (nI nx + 24 - 1) / 24 * 24 = nI (pos nx 0) := by
    rw [show nI nx + 24 = nI (nx + 24) from nI_add _ 24, show nx + 24 = (nx + 23) + 1 by omega, nI_pred, rem24 _ (by omega), hpos]
  unfold w_X0_takeBack
  rw [h5, ev]
  intro v1 e1 M2 e2 v3 e3 M4 e4 v5 e5
  have k26 : M2 21 6 = nI n := by rw [e2, ms_ne2 (by decide), h6]
  rw [k26, show n = (n - 1) + 1 by omega, nI_pred] at e3
  have k45 : M4 21 5 = nI (pos nx 0) := by rw [e4, ms_ne2 (by decide), e2, ms_eq, e1]
  have k46 : M4 21 6 = nI (n - 1) := by rw [e4, ms_eq, e3]
  have ko : ∀ k j, k ≠ 21 → M4 k j = M k j := fun k j hk => by rw [e4, ms_ne hk, e2, ms_ne hk]
  have c4 : cv M4 41 = cv M 41 := cv_eq (fun f i hf => ko _ _ (by omega))
  have f4 : Fr SC M M4 := by
    rw [e4, e2]
    exact Fr_ms (Fr_ms (Fr_rf _ _) _ (by unfold SC; omega)) _ (by unfold SC; omega)
  have hin : vp_in (nI (pos nx 0)) 24 := vp_in_nI hp24 (by decide)
  rw [e5, k45, ix_nat (by omega)]
  refine ⟨hin, fun v7 e7 => ?_⟩
  rw [ko 22 _ (by decide)] at e7
  have n6 := (V_np hV).2
  have d6 := (V_nd hV).2
  rw [e7]
  -- a change of the town behind M4
  have fin : ∀ (M1 : Mem), (∀ k j, 21 ≤ k → k ≤ 26 → M1 k j = M4 k j) → Fr SC M4 M1 → cv M1 41 = uR M (pos nx 0) (cv M 41) → Q M1 := by
    intro M1 h1 h2 h3
    exact q M1 h3 ((h1 21 5 (by decide) (by decide)).trans k45) ((h1 21 6 (by decide) (by decide)).trans k46) (fun k j hk => (h1 k j (by omega) (by omega)).trans (ko k j (by omega))) (Fr_tr f4 h2)
  refine ⟨fun z => ?_, fun z => ?_, fun z => ?_, fun z => ?_, fun z => ?_, fun z1 z2 z3 z4 z5 => ?_⟩
  · intro v9 e9
    rw [e9, ix_nat (by omega)]
    refine ⟨hin, fun v11 e11 => ?_⟩
    rw [e11, ix_nat (by omega)]
    refine ⟨hin, ?_⟩
    rw [ko 23 _ (by decide), ko 24 _ (by decide)]
    obtain ⟨⟨p, hp6, ep⟩, ⟨d, hd6, ed⟩⟩ := hE.2.1 z
    obtain ⟨hp, hd⟩ := hE.1.1 z
    rw [ep, ix_nat (by omega)] at hp
    rw [ed, ix_nat (by omega)] at hd
    rw [ep, ed]
    have hR4 : RC M4 41 (cv M 41) := by rw [← c4]; exact RC_cv _ 41
    have h36 : vp_in (nI (6 * p + d)) 36 := vp_in_nI (by omega) (by decide)
    unfold w_X0_stepBack w_X6_cellOf
    rw [cel]
    refine W6_cross hR4 hV hp hd ?_
    rw [ms_ne (by decide), k45]
    intro v5' e5'
    rw [e5', ix_nat (by omega)]
    refine ⟨hin, fun v7' e7' => ⟨h36, fun M9 e9' v10 e10 => ?_⟩⟩
    have k9 : M9 21 5 = nI (pos nx 0) := by rw [e9', ms_ne (by decide), ms_ne (by decide), k45]
    rw [e10, k9, ix_nat (by omega)]
    refine ⟨hin, fun v12 e12 => ⟨h36, fun M14 e14 => ?_⟩⟩
    rw [ms_ne (by decide), ko 25 _ (by decide)] at e7'
    rw [e9', ms_ne (by decide), ms_ne (by decide), ko 26 _ (by decide)] at e12
    rw [ix_nat (by omega)] at e9' e14
    refine fin M14 (fun k j h1 h2 => ?_) ?_ ?_
    · rw [e14, ms_ne (by omega), e9', ms_ne (by omega), ms_ne (by omega)]
    · rw [e14, e9']
      exact Fr_ms (Fr_ms (Fr_ms (Fr_rf _ _) _ (by unfold SC; omega)) _ (by unfold SC; omega)) _ (by unfold SC; omega)
    · rw [e14, cv_ms _ _ _ _ _ (by decide), e9', cv_ms _ _ _ _ _ (by decide), cv_ms _ _ _ _ _ (by decide), c4, e7', e12]
      unfold uR uA
      rw [z, if_pos rfl, ep, ed, ix_nat (by omega), ix_nat (by omega)]
  · intro v16 e16 M17 e17
    have k5 : M4 41 5 = cv M 41 0 5 := ko 41 5 (by decide)
    rw [k5] at e16
    refine fin M17 (fun k j h1 h2 => by rw [e17, ms_ne (by omega)]) (by rw [e17]; exact Fr_ms (Fr_rf _ _) _ (by unfold SC; omega)) ?_
    rw [e17]
    show cv (ms M4 (41 + 0) 5 v16) 41 = _
    rw [cv_ms _ _ _ _ _ (by decide), c4, e16]
    unfold uR uA
    rw [z, if_neg (by decide), if_pos rfl]
  · intro v19 e19
    rw [e19, ix_nat (by omega)]
    refine ⟨hin, fun v21 e21 => ?_⟩
    obtain ⟨p, hp6, ep⟩ := hE.2.2 (Or.inl z)
    rw [ko 23 _ (by decide), ep] at e21
    have hi6 : vp_in (nI p) 6 := vp_in_nI hp6 (by decide)
    rw [e21, ix_nat (by omega)]
    refine ⟨hi6, fun v23 e23 => ⟨hi6, fun M25 e25 => ?_⟩⟩
    have k6 : M4 (41 + 6) p = cv M 41 6 p := (ko (41 + 6) p (by decide)).trans (cv_at M 41 6 p (by decide)).symm
    rw [k6] at e23
    refine fin M25 (fun k j h1 h2 => by rw [e25, ms_ne (by omega)]) (by rw [e25]; exact Fr_ms (Fr_rf _ _) _ (by unfold SC; omega)) ?_
    rw [e25, cv_ms _ _ _ _ _ (by decide), c4, e23]
    unfold uR uA
    rw [z, if_neg (by decide), if_neg (by decide), if_pos rfl, ep, ix_nat (by omega)]
  · intro v19 e19
    rw [e19, ix_nat (by omega)]
    refine ⟨hin, fun v21 e21 => ?_⟩
    obtain ⟨p, hp6, ep⟩ := hE.2.2 (Or.inr z)
    rw [ko 23 _ (by decide), ep] at e21
    have hi6 : vp_in (nI p) 6 := vp_in_nI hp6 (by decide)
    rw [e21, ix_nat (by omega)]
    refine ⟨hi6, fun v23 e23 => ⟨hi6, fun M25 e25 => ?_⟩⟩
    have k6 : M4 (41 + 6) p = cv M 41 6 p := (ko (41 + 6) p (by decide)).trans (cv_at M 41 6 p (by decide)).symm
    rw [k6] at e23
    refine fin M25 (fun k j h1 h2 => by rw [e25, ms_ne (by omega)]) (by rw [e25]; exact Fr_ms (Fr_rf _ _) _ (by unfold SC; omega)) ?_
    rw [e25, cv_ms _ _ _ _ _ (by decide), c4, e23]
    unfold uR uA
    rw [z, if_neg (by decide), if_neg (by decide), if_neg (by decide), if_pos rfl, ep, ix_nat (by omega)]
  · intro v16 e16 M17 e17
    have k5 : M4 41 2 = cv M 41 0 2 := ko 41 2 (by decide)
    rw [k5] at e16
    refine fin M17 (fun k j h1 h2 => by rw [e17, ms_ne (by omega)]) (by rw [e17]; exact Fr_ms (Fr_rf _ _) _ (by unfold SC; omega)) ?_
    rw [e17]
    show cv (ms M4 (41 + 0) 2 v16) 41 = _
    rw [cv_ms _ _ _ _ _ (by decide), c4, e16]
    unfold uR uA
    rw [z, if_neg (by decide), if_neg (by decide), if_neg (by decide), if_neg (by decide), if_pos rfl]
  · refine fin M4 (fun _ _ _ _ => rfl) (Fr_rf _ _) ?_
    rw [c4]
    unfold uR uA
    rw [if_neg z1, if_neg z2, if_neg z3, if_neg z4, if_neg z5]
theorem uA_day {a tb lb : Int32} {p d : Nat} {A : Tn} (hV : V A) : na (uA a p d tb lb A) 0 5 ≤ na A 0 5 := by
  unfold uA
  by_cases h1 : a = 1
  · rw [if_pos h1]
    unfold na
    rw [ms_ne (by decide), ms_ne (by decide), ms_ne (by decide)]
    exact Nat.le_refl _
  · rw [if_neg h1]
    by_cases h2 : a = 2
    · rw [if_pos h2]
      have e5 : A 0 5 = nI (na A 0 5) := hV.1.2.2.2.2.2.2.2.2.2.2.1
      have l5 : na A 0 5 ≤ 2000 := hV.1.2.2.2.2.2.2.2.2.2.2.2.1
      show Int32.toNatClampNeg (ms A 0 5 (A 0 5 - 1) 0 5) ≤ _
      rw [ms_eq, e5]
      cases hz : na A 0 5 with
      | zero => decide
      | succ t =>
        rw [nI_pred, ix_nat (by omega)]
        omega
    · rw [if_neg h2]
      by_cases h3 : a = 3
      · rw [if_pos h3]
        unfold na
        rw [ms_ne (by decide)]
        exact Nat.le_refl _
      · rw [if_neg h3]
        by_cases h4 : a = 4
        · rw [if_pos h4]
          unfold na
          rw [ms_ne (by decide)]
          exact Nat.le_refl _
        · rw [if_neg h4]
          by_cases h5 : a = 5
          · rw [if_pos h5]
            unfold na
            rw [ms_ne2 (by decide)]
            exact Nat.le_refl _
          · rw [if_neg h5]
            exact Nat.le_refl _
theorem S_undo (M : Mem) (n nx : Nat) (h : Hist M n nx) : w_X8_undo M (fun r M1 => w_X9_undo M1 (fun r2 M2 => PAct M r r2 M2)) := by
  obtain ⟨hV, hM⟩ := H_cur h
  obtain ⟨g1, g2, g3, g4, g5⟩ := H_n h
  unfold w_X8_undo
  rw [g3, nI_z (by omega)]
  refine ⟨fun z => ?_, fun z => ?_⟩
  · have hn : 0 < n := by omega
    refine W0_back hn g1 g2 g5 g3 hV (h.2.2.2.2.2.2 0 hn) (fun M1 c1 k5 k6 kr hF => ?_)
    have o86 : ∀ i, M1 86 i = M 86 i := fun i => hF 86 i (by unfold SC; omega)
    have o851 : M1 85 1 = nI n := (hF 85 1 (by unfold SC; omega)).trans g4
    unfold w_X9_undo
    show _ ∧ _
    rw [o851, nI_z (by omega), k6]
    refine ⟨fun _ v2 e2 M3 e3 => ?_, fun y => absurd y z⟩
    have k31 : M3 85 1 = nI (n - 1) := by rw [e3, ms_eq, e2, show n = (n - 1) + 1 by omega, nI_pred]; rfl
    rw [k31, show 126 + 126 * nI (n - 1) = nI (126 * n) from by rw [show (126 : Int32) = nI 126 from rfl, pk_mul, nI_add, show 126 + 126 * (n - 1) = 126 * n by omega]]
    refine W9_copyTown (b := 0) (by omega) (by omega) (by omega) ?_
    have k41 : cpT M3 (126 * n) 0 126 85 1 = nI (n - 1) := by rw [cpT_app, if_neg (by omega), k31]
    rw [k41]
    generalize hM4 : cpT M3 (126 * n) 0 126 = M4 at k41
    have lo : ∀ k j, k ≠ 86 → ¬ (k = 85 ∧ j = 1) → M4 k j = M1 k j := by
      intro k j h1 h2
      rw [← hM4, cpT_app, if_neg (by omega), e3, ms_app, if_neg h2]
    have l0 : ∀ i, i < 126 → M4 86 i = M 86 (126 * n + i) := by
      intro i hi
      rw [← hM4, cpT_app, if_pos (by omega), e3, ms_ne (by decide), o86, Nat.sub_zero]
    have l1 : ∀ i, 126 ≤ i → M4 86 i = M 86 i := by
      intro i hi
      rw [← hM4, cpT_app, if_neg (by omega), e3, ms_ne (by decide), o86]
    have hpos : pos nx 0 = (nx + 23) % 24 := by unfold pos; omega
    have ps : ∀ i, i < 23 → pos (pos nx 0) i = pos nx (i + 1) := by
      intro i hi
      rw [hpos]
      unfold pos
      omega
    have ec : cv M4 41 = bk M nx 1 := by
      rw [cv_eq (M := M1) (fun f i hf => lo _ _ (by omega) (by omega)), c1]
      rfl
    have hbk : ∀ i, i ≤ n - 1 → bk M4 (pos nx 0) i = bk M nx (i + 1) := by
      intro i
      induction i with
      | zero => intro _; exact ec
      | succ i ih =>
        intro hi
        show uR M4 (pos (pos nx 0) i) (bk M4 (pos nx 0) i) = uR M (pos nx (i + 1)) (bk M nx (i + 1))
        rw [ih (by omega), ps i (by omega)]
        unfold uR
        rw [lo _ _ (by decide) (by omega), lo _ _ (by decide) (by omega), lo _ _ (by decide) (by omega), lo _ _ (by decide) (by omega), lo _ _ (by decide) (by omega), kr 22 _ (by omega), kr 23 _ (by omega), kr 24 _ (by omega), kr 25 _ (by omega), kr 26 _ (by omega)]
    refine ⟨rfl, ⟨n - 1, pos nx 0, by omega, ⟨by rw [hpos]; omega, by rw [ec]; exact Nat.le_trans (uA_day hV) (H_day h)⟩, ?_, k41, ?_, fun i hi => ?_, fun i hi => ?_⟩, ?_⟩
    · rw [lo _ _ (by decide) (by omega)]; exact k6
    · rw [lo _ _ (by decide) (by omega)]; exact k5
    · rw [hbk i hi]
      obtain ⟨v1, r1⟩ := h.2.2.2.2.2.1 (i + 1) (by omega)
      refine ⟨v1, ?_⟩
      have hb1 : hb n (i + 1) = 126 * (n - (i + 1) + 1) := by unfold hb; rw [if_neg (by omega)]
      rw [hb1] at r1
      have key : ∀ (a b : Nat), RM M b (bk M nx (i + 1)) → (∀ k, k < 126 → M4 86 (a + k) = M 86 (b + k)) → RM M4 a (bk M nx (i + 1)) := by
        intro a b hm hk
        refine ⟨fun j hj => ?_, fun f t hr => ?_, fun p d hp hd hn => ?_⟩
        · rw [hk _ (by have := mo0_lt hj; omega)]; exact hm.1 j hj
        · rw [hk _ (mo_lt v1 hr)]; exact hm.2.1 f t hr
        · have := hm.2.2 p d hp hd hn
          rw [show b + 54 + 6 * p + d = b + (54 + 6 * p + d) by omega, show b + 90 + 6 * p + d = b + (90 + 6 * p + d) by omega] at this
          rw [show a + 54 + 6 * p + d = a + (54 + 6 * p + d) by omega, show a + 90 + 6 * p + d = a + (90 + 6 * p + d) by omega]
          rw [hk _ (by omega), hk _ (by omega)]
          exact this
      refine key _ _ r1 (fun k hk => ?_)
      unfold hb
      by_cases e : i = 0
      · rw [if_pos e, Nat.zero_add, l0 k hk, e]
        exact congrArg (M 86) (by omega)
      · rw [if_neg e, l1 _ (by omega)]
        exact congrArg (M 86) (by omega)
    · rw [hbk i (by omega), ps i (by omega)]
      have := h.2.2.2.2.2.2 (i + 1) (by omega)
      unfold EOkR at this ⊢
      rw [lo _ _ (by decide) (by omega), lo _ _ (by decide) (by omega), lo _ _ (by decide) (by omega), kr 22 _ (by omega), kr 23 _ (by omega), kr 24 _ (by omega)]
      exact this
    · intro k j hs
      unfold SAct at hs
      by_cases e : k = 86
      · subst e
        rw [l1 j (by omega)]
      · rw [lo k j e (by omega)]
        exact hF k j (by unfold SC; omega)
  · unfold w_X9_undo
    show _ ∧ _
    rw [g4, nI_z (by omega)]
    exact ⟨fun y => absurd z y, fun _ => pa_same h _⟩
