theorem mcp_app0 (M : Mem) (k0 k1 n a b : Nat) : mcp M k0 k1 0 0 n a b = if a = k1 ∧ b < n then M k0 b else M a b := by
  by_cases e : a = k1
  · subst e
    rw [mcp_at]
    unfold va_cpy
    by_cases h : b < n
    · rw [if_pos (by omega), if_pos ⟨rfl, h⟩]
      exact congrArg (M k0) (by omega)
    · rw [if_neg (by omega), if_neg (by omega)]
  · rw [mcp_ne e, if_neg (fun z => e z.1)]
/-- the class's TOWN at T becomes that at U -/
theorem W6_become {M : Mem} {T U : Nat} {Q : Mem → Prop} (hTU : T + 11 ≤ U ∨ U + 11 ≤ T) (q : ∀ M2 : Mem, (∀ f j, dom f j → M2 (T + f) j = M (U + f) j) → (∀ k j, ¬ (T ≤ k ∧ k ≤ T + 10) → M2 k j = M k j) → Q M2) : w_X6_become T U M Q := by
  unfold w_X6_become
  intro v1 e1 M2 e2 v3 e3 M4 e4 v5 e5 M6 e6 v7 e7 M8 e8 v9 e9 M10 e10 v11 e11 M12 e12 M13 e13 M14 e14 M15 e15 M16 e16 M17 e17 M18 e18 M19 e19 M20 e20 M21 e21 M22 e22
  have s12 : ∀ k j, M12 k j = if k = T ∧ j < 6 then M U j else M k j := by
    intro k j
    have n0 : v1 = M U 0 := e1
    have n1 : v3 = M U 1 := by rw [e3, e2, ms_ne (by omega)]
    have n2 : v5 = M U 2 := by rw [e5, e4, ms_ne (by omega), e2, ms_ne (by omega)]
    have n3 : v7 = M U 3 := by rw [e7, e6, ms_ne (by omega), e4, ms_ne (by omega), e2, ms_ne (by omega)]
    have n4 : v9 = M U 4 := by rw [e9, e8, ms_ne (by omega), e6, ms_ne (by omega), e4, ms_ne (by omega), e2, ms_ne (by omega)]
    have n5 : v11 = M U 5 := by rw [e11, e10, ms_ne (by omega), e8, ms_ne (by omega), e6, ms_ne (by omega), e4, ms_ne (by omega), e2, ms_ne (by omega)]
    by_cases h : k = T ∧ j < 6
    · rw [if_pos h]
      obtain ⟨h1, h2⟩ := h
      subst h1
      rcases (by omega : j = 0 ∨ j = 1 ∨ j = 2 ∨ j = 3 ∨ j = 4 ∨ j = 5) with h | h | h | h | h | h <;> subst h
      · rw [e12, ms_ne2 (by decide), e10, ms_ne2 (by decide), e8, ms_ne2 (by decide), e6, ms_ne2 (by decide), e4, ms_ne2 (by decide), e2, ms_eq, n0]
      · rw [e12, ms_ne2 (by decide), e10, ms_ne2 (by decide), e8, ms_ne2 (by decide), e6, ms_ne2 (by decide), e4, ms_eq, n1]
      · rw [e12, ms_ne2 (by decide), e10, ms_ne2 (by decide), e8, ms_ne2 (by decide), e6, ms_eq, n2]
      · rw [e12, ms_ne2 (by decide), e10, ms_ne2 (by decide), e8, ms_eq, n3]
      · rw [e12, ms_ne2 (by decide), e10, ms_eq, n4]
      · rw [e12, ms_eq, n5]
    · rw [if_neg h, e12, ms_app, if_neg (by omega), e10, ms_app, if_neg (by omega), e8, ms_app, if_neg (by omega), e6, ms_app, if_neg (by omega), e4, ms_app, if_neg (by omega), e2, ms_app, if_neg (by omega)]
  refine q M22 (fun f j hd => ?_) (fun k j hk => ?_)
  · unfold dom at hd
    rcases (by omega : f = 0 ∨ f = 1 ∨ f = 2 ∨ f = 3 ∨ f = 4 ∨ f = 5 ∨ f = 6 ∨ f = 7 ∨ f = 8 ∨ f = 9 ∨ f = 10) with h | h | h | h | h | h | h | h | h | h | h <;> subst h
    all_goals (
      rw [e22, mcp_app0]; (first | rw [if_pos (by omega)] | rw [if_neg (by omega)])
      rw [e21, mcp_app0]; (first | rw [if_pos (by omega)] | rw [if_neg (by omega)])
      rw [e20, mcp_app0]; (first | rw [if_pos (by omega)] | rw [if_neg (by omega)])
      rw [e19, mcp_app0]; (first | rw [if_pos (by omega)] | rw [if_neg (by omega)])
      rw [e18, mcp_app0]; (first | rw [if_pos (by omega)] | rw [if_neg (by omega)])
      rw [e17, mcp_app0]; (first | rw [if_pos (by omega)] | rw [if_neg (by omega)])
      rw [e16, mcp_app0]; (first | rw [if_pos (by omega)] | rw [if_neg (by omega)])
      rw [e15, mcp_app0]; (first | rw [if_pos (by omega)] | rw [if_neg (by omega)])
      rw [e14, mcp_app0]; (first | rw [if_pos (by omega)] | rw [if_neg (by omega)])
      rw [e13, mcp_app0]; (first | rw [if_pos (by omega)] | rw [if_neg (by omega)])
      rw [s12]; (first | rw [if_pos (by omega)] | rw [if_neg (by omega)]))
    rfl
  · rw [e22, mcp_app0, if_neg (by omega)]; rw [e21, mcp_app0, if_neg (by omega)]; rw [e20, mcp_app0, if_neg (by omega)]; rw [e19, mcp_app0, if_neg (by omega)]; rw [e18, mcp_app0, if_neg (by omega)]; rw [e17, mcp_app0, if_neg (by omega)]; rw [e16, mcp_app0, if_neg (by omega)]; rw [e15, mcp_app0, if_neg (by omega)]; rw [e14, mcp_app0, if_neg (by omega)]; rw [e13, mcp_app0, if_neg (by omega)]
    rw [s12, if_neg (by omega)]
theorem bec_alk {M M2 : Mem} {T U : Nat} (hV : V (cv M U)) (h : ∀ f j, dom f j → M2 (T + f) j = M (U + f) j) : Alk (cv M U) (cv M2 T) := by
  refine ⟨fun j hj => ?_, fun f i hr => ?_⟩
  · rw [cv_at _ _ _ _ (by decide), cv_at _ _ _ _ (by decide), h 0 j (Or.inl ⟨by decide, hj⟩)]
  · have := rel_f hr
    rw [cv_at _ _ _ _ (by omega), cv_at _ _ _ _ (by omega), h f i (rel_dom hV hr)]
theorem RM_mv {M M2 : Mem} {a b : Nat} {A : Tn} (hm : RM M a A) (v1 : V A) (hk : ∀ k, k < 126 → M2 86 (b + k) = M 86 (a + k)) : RM M2 b A := by
  refine ⟨fun j hj => ?_, fun f t hr => ?_, fun p d hp hd hn => ?_⟩
  · rw [hk _ (by have := mo0_lt hj; omega)]; exact hm.1 j hj
  · rw [hk _ (mo_lt v1 hr)]; exact hm.2.1 f t hr
  · have := hm.2.2 p d hp hd hn
    rw [show a + 54 + 6 * p + d = a + (54 + 6 * p + d) by omega, show a + 90 + 6 * p + d = a + (90 + 6 * p + d) by omega] at this
    rw [show b + 54 + 6 * p + d = b + (54 + 6 * p + d) by omega, show b + 90 + 6 * p + d = b + (90 + 6 * p + d) by omega]
    rw [hk _ (by omega), hk _ (by omega)]
    exact this
def IImg (M : Mem) : Prop := ∀ k, k < 2 → (M 87 k = 0 ∧ M (63 + 11 * k) 3 = 0) ∨ (M 87 k = 1 ∧ V (cv M (63 + 11 * k)) ∧ (0 < np (cv M (63 + 11 * k)) ∧ na (cv M (63 + 11 * k)) 0 5 ≤ 999) ∧ RM M (3150 + 126 * k) (cv M (63 + 11 * k)))
def SImg (k j : Nat) : Prop := (63 ≤ k ∧ k ≤ 84) ∨ k = 87 ∨ (k = 86 ∧ 3150 ≤ j ∧ j < 3402)
theorem IImg_fr {M M2 : Mem} (h : IImg M) (hf : ∀ k j, SImg k j → M2 k j = M k j) : IImg M2 := by
  intro k hk
  have ec : cv M2 (63 + 11 * k) = cv M (63 + 11 * k) := cv_eq (fun f i hf2 => hf _ _ (Or.inl (by omega)))
  rw [ec, hf 87 k (Or.inr (Or.inl rfl)), hf (63 + 11 * k) 3 (Or.inl (by omega))]
  rcases h k hk with h | ⟨h1, h2, h3, h4⟩
  · exact Or.inl h
  · exact Or.inr ⟨h1, h2, h3, RM_fr h4 h2 (fun i hi => hf _ _ (Or.inr (Or.inr (by omega))))⟩
theorem T8 {M : Mem} {A : Tn} {Q : Int32 → Mem → Prop} (hC : RC M 41 A) (hV : V A) (q1 : 0 < np A → 0 < nd A → Q 1 M) (q0 : np A = 0 → Q 0 M) : w_X8_isTown M Q := by
  have e3 : M 41 3 = nI (np A) := (hC.1 3 (by decide)).trans (V_np hV).1
  have e2 : M 41 2 = nI (nd A) := (hC.1 2 (by decide)).trans (V_nd hV).1
  have hn := (V_np hV).2
  have hm := (V_nd hV).2
  have hs := (V_sc hV).1
  unfold w_X8_isTown
  rw [e3, e2, nI_le0 (by omega), nI_le0 (by omega)]
  refine ⟨fun z => q0 z, fun z => ⟨fun y => absurd (hs.mp (by omega)) (by omega), fun y => q1 (by omega) (by omega)⟩⟩
theorem w2b {k : Nat} (hk : k < 2) : vp_in (nI k) 2 := vp_in_nI hk (by decide)
theorem S_image (M : Mem) (a : Int32) (n nx : Nat) (h : Hist M n nx) (hI : IImg M) : w_X8_image M a (fun r M1 => w_X9_image M1 a (fun r2 M2 => r = r2 ∧ IImg M2 ∧ Fr SImg M M2)) := by
  obtain ⟨hV, hM⟩ := H_cur h
  have hn := (V_np hV).2
  have m3 : M 86 3 = nI (np (cv M 41)) := (RM0 hM (j := 3) (by decide)).trans (V_np hV).1
  unfold w_X8_image
  rw [show (2 : Int32) = nI 2 from rfl, W8_ix (by decide)]
  by_cases hk : isIx a 2
  · rw [bI_t hk]
    obtain ⟨k, hk, e⟩ := hk
    subst e
    refine cr1 (T8 (RC_cv M 41) hV (fun hp hd => cr1 ?_) (fun hp => cr0 ?_))
    · refine ⟨w2b hk, ?_⟩
      rw [ix_nat (by omega)]
      refine W6_become (by omega) (fun M1 b1 b2 => ?_)
      unfold w_X9_image
      show w_X9_in _ _ _ _ _
      rw [W9_ix (n := 2) (by decide) (by decide) (by decide), bI_t ⟨k, hk, rfl⟩]
      refine cr1 ?_
      rw [b2 86 3 (by omega), m3, nI_z (by omega)]
      refine ⟨fun _ => ?_, fun z => absurd z (by omega)⟩
      rw [show 3150 + 126 * nI k = nI (3150 + 126 * k) from by rw [show (126 : Int32) = nI 126 from rfl, show (3150 : Int32) = nI 3150 from rfl, pk_mul, nI_add]]
      refine W9_copyTown (a := 0) (by omega) (by omega) (by omega) ⟨w2b hk, fun M8 e8 => ?_⟩
      rw [ix_nat (by omega), show vp_nar .boolean 1 = (1 : Int32) from by decide] at e8
      have o1 : ∀ x j, ¬ (63 + 11 * k ≤ x ∧ x ≤ 63 + 11 * k + 10) → ¬ (x = 86 ∧ 3150 + 126 * k ≤ j ∧ j < 3150 + 126 * k + 126) → ¬ (x = 87 ∧ j = k) → M8 x j = M x j := by
        intro x j h1 h2 h3
        rw [e8, ms_app, if_neg h3, cpT_app, if_neg h2, b2 x j h1]
      have o2 : ∀ f j, dom f j → M8 (63 + 11 * k + f) j = M (41 + f) j := by
        intro f j hd
        have : f ≤ 10 := by unfold dom at hd; omega
        rw [e8, ms_app, if_neg (by omega), cpT_app, if_neg (by omega), b1 f j hd]
      have ha : Alk (cv M 41) (cv M8 (63 + 11 * k)) := bec_alk hV o2
      refine ⟨rfl, fun i hi => ?_, fun x j hs => o1 x j (fun z => hs (Or.inl (by omega))) (fun z => hs (Or.inr (Or.inr (by omega)))) (fun z => hs (Or.inr (Or.inl z.1)))⟩
      by_cases ei : i = k
      · subst ei
        refine Or.inr ⟨by rw [e8, ms_eq], V_alk hV ha, ⟨by rw [(Alk_n ha).2.2]; exact hp, by unfold na; rw [← ha.1 5 (by decide)]; exact H_day h⟩, RM_alk (RM_mv hM hV (fun j hj => ?_)) ha⟩
        rw [e8, ms_ne (by decide), cpT_app, if_pos (by omega), b2 _ _ (by omega)]
        exact congrArg (M 86) (by omega)
      · have ec : cv M8 (63 + 11 * i) = cv M (63 + 11 * i) := cv_eq (fun f j hf => o1 _ _ (by omega) (by omega) (by omega))
        rw [ec, o1 87 i (by omega) (by omega) (by omega), o1 (63 + 11 * i) 3 (by omega) (by omega) (by omega)]
        rcases hI i hi with h | ⟨h1, h2, h3, h4⟩
        · exact Or.inl h
        · exact Or.inr ⟨h1, h2, h3, RM_fr h4 h2 (fun j hj => o1 _ _ (by omega) (by omega) (by omega))⟩
    · unfold w_X9_image
      show w_X9_in _ _ _ _ _
      rw [W9_ix (n := 2) (by decide) (by decide) (by decide), bI_t ⟨k, hk, rfl⟩]
      refine cr1 ?_
      rw [m3, nI_z (by omega)]
      exact ⟨fun z => absurd hp z, fun _ => ⟨rfl, hI, Fr_rf _ _⟩⟩
  · rw [bI_f hk]
    refine cr0 ?_
    unfold w_X9_image
    show w_X9_in _ _ _ _ _
    rw [W9_ix (n := 2) (by decide) (by decide) (by decide), bI_f hk]
    exact cr0 ⟨rfl, hI, Fr_rf _ _⟩
theorem S_restore (M : Mem) (a : Int32) (n nx : Nat) (h : Hist M n nx) (hI : IImg M) : w_X8_restore M a (fun r M1 => w_X9_restore M1 a (fun r2 M2 => PAct M r r2 M2)) := by
  obtain ⟨hV, hM⟩ := H_cur h
  obtain ⟨g1, g2, g3, g4, g5⟩ := H_n h
  unfold w_X8_restore
  rw [show (2 : Int32) = nI 2 from rfl, W8_ix (by decide)]
  by_cases hk : isIx a 2
  · rw [bI_t hk]
    obtain ⟨k, hk, e⟩ := hk
    subst e
    refine cr1 ⟨w2b hk, ?_⟩
    rw [ix_nat (by omega)]
    have m9 : ∀ (M1 : Mem) (R : Int32 → Mem → Prop), M1 87 k = M 87 k → (M 87 k = 0 → R (-1000002) M1) → (¬ M 87 k = 0 → R 1 (ms (cpT M1 (3150 + 126 * k) 0 126) 85 1 0)) → w_X9_restore M1 (nI k) R := by
      intro M1 R h1 h2 h3
      unfold w_X9_restore
      rw [W9_ix (n := 2) (by decide) (by decide) (by decide), bI_t ⟨k, hk, rfl⟩]
      refine cr1 ⟨w2b hk, ?_⟩
      rw [ix_nat (by omega), h1]
      refine ⟨fun z => ?_, fun z => h2 z⟩
      rw [show 3150 + 126 * nI k = nI (3150 + 126 * k) from by rw [show (126 : Int32) = nI 126 from rfl, show (3150 : Int32) = nI 3150 from rfl, pk_mul, nI_add]]
      refine W9_copyTown (b := 0) (by omega) (by omega) (by omega) (fun M8 e8 => ?_)
      rw [e8]
      exact h3 z
    rcases hI k hk with ⟨h1, h2⟩ | ⟨h1, h2, h3, h4⟩
    · refine ⟨fun z => absurd h2 z, fun _ => m9 M _ rfl (fun _ => pa_same h _) (fun z => absurd h1 z)⟩
    · have hp6 := (V_np h2).2
      have e3 : M (63 + 11 * k) 3 = nI (np (cv M (63 + 11 * k))) := (V_np h2).1
      rw [e3, nI_z (by omega)]
      refine ⟨fun _ => ⟨w2b hk, W6_become (by omega) (fun M1 b1 b2 => ?_)⟩, fun z => absurd z (by omega)⟩
      intro M2 e2
      refine m9 M2 _ (by rw [e2, ms_ne (by decide), b2 _ _ (by omega)]) (fun z => absurd (h1.symm.trans z) (by decide)) (fun _ => ?_)
      generalize e5 : ms (cpT M2 (3150 + 126 * k) 0 126) 85 1 0 = M5
      have o1 : ∀ x j, ¬ (41 ≤ x ∧ x ≤ 51) → ¬ (x = 86 ∧ j < 126) → ¬ (x = 85 ∧ j = 1) → ¬ (x = 21 ∧ j = 6) → M5 x j = M x j := by
        intro x j h1 h2 h3 h4
        rw [← e5, ms_app, if_neg h3, cpT_app, if_neg (by omega), e2, ms_app, if_neg h4, b2 x j (by omega)]
      have o2 : ∀ f j, dom f j → M5 (41 + f) j = M (63 + 11 * k + f) j := by
        intro f j hd
        have : f ≤ 10 := by unfold dom at hd; omega
        rw [← e5, ms_app, if_neg (by omega), cpT_app, if_neg (by omega), e2, ms_app, if_neg (by omega), b1 f j hd]
      have ha : Alk (cv M (63 + 11 * k)) (cv M5 41) := bec_alk h2 o2
      refine ⟨rfl, ⟨0, nx, by omega, ⟨g2, by unfold na; rw [← ha.1 5 (by decide)]; exact h3.2⟩, ?_, ?_, ?_, fun i hi => ?_, fun i hi => absurd hi (by omega)⟩, fun x j hs => ?_⟩
      · rw [← e5, ms_ne (by decide), cpT_app, if_neg (by omega), e2, ms_eq]; rfl
      · rw [← e5, ms_eq]; rfl
      · rw [o1 _ _ (by decide) (by decide) (by decide) (by decide)]; exact g5
      · have hi : i = 0 := by omega
        subst hi
        refine ⟨V_alk h2 ha, RM_alk (RM_mv h4 h2 (fun j hj => ?_)) ha⟩
        show M5 86 (0 + j) = _
        rw [← e5, ms_ne (by decide), cpT_app, if_pos (by omega), e2, ms_ne (by decide), b2 _ _ (by omega)]
        exact congrArg (M 86) (by omega)
      · unfold SAct at hs
        exact o1 x j (by omega) (by omega) (by omega) (by omega)
  · rw [bI_f hk]
    refine cr0 ?_
    unfold w_X9_restore
    show w_X9_in _ _ _ _ _
    rw [W9_ix (n := 2) (by decide) (by decide) (by decide), bI_f hk]
    exact cr0 (pa_same h _)
