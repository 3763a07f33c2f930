def SH (k j : Nat) : Prop := (21 ≤ k ∧ k ≤ 26) ∨ (41 ≤ k ∧ k ≤ 51) ∨ (k = 85 ∧ j = 1) ∨ (k = 86 ∧ j < 3150)
theorem Hist_fr {M M2 : Mem} {n nx : Nat} (h : Hist M n nx) (hf : ∀ k j, SH k j → M2 k j = M k j) : Hist M2 n nx := by
  have r : ∀ k j, 21 ≤ k → k ≤ 26 → M2 k j = M k j := fun k j a b => hf k j (Or.inl ⟨a, b⟩)
  have ec : cv M2 41 = cv M 41 := cv_eq (fun f i hf2 => hf _ _ (Or.inr (Or.inl ⟨by omega, by omega⟩)))
  have eu : ∀ q A, uR M2 q A = uR M q A := by
    intro q A
    unfold uR
    rw [r 22 q (by decide) (by decide), r 23 q (by decide) (by decide), r 24 q (by decide) (by decide), r 25 q (by decide) (by decide), r 26 q (by decide) (by decide)]
  have eb : ∀ i, bk M2 nx i = bk M nx i := by
    intro i
    induction i with
    | zero => exact ec
    | succ i ih =>
      show uR M2 (pos nx i) (bk M2 nx i) = uR M (pos nx i) (bk M nx i)
      rw [ih, eu]
  obtain ⟨h1, h2, h3, h4, h5, h6, h7⟩ := h
  refine ⟨h1, ⟨h2.1, by rw [ec]; exact h2.2⟩, by rw [r 21 6 (by decide) (by decide)]; exact h3, by rw [hf 85 1 (Or.inr (Or.inr (Or.inl ⟨rfl, rfl⟩)))]; exact h4, by rw [r 21 5 (by decide) (by decide)]; exact h5, fun i hi => ?_, fun i hi => ?_⟩
  · rw [eb i]
    obtain ⟨a, b⟩ := h6 i hi
    refine ⟨a, RM_fr b a (fun j hj => hf _ _ (Or.inr (Or.inr (Or.inr ⟨rfl, ?_⟩))))⟩
    unfold hb
    split <;> omega
  · rw [eb i]
    have := h7 i hi
    unfold EOkR at this ⊢
    rw [r 22 _ (by decide) (by decide), r 23 _ (by decide) (by decide), r 24 _ (by decide) (by decide)]
    exact this
def STown (k j : Nat) : Prop := (k = 0 ∧ j = 10) ∨ (k = 19 ∧ 1 ≤ j) ∨ (21 ≤ k ∧ k ≤ 26) ∨ (41 ≤ k ∧ k ≤ 62) ∨ (k = 85 ∧ (j = 1 ∨ j = 7 ∨ j = 8 ∨ (12 ≤ j ∧ j ≤ 14))) ∨ (k = 86 ∧ (j < 3150 ∨ 3402 ≤ j))
theorem RMp_RM {M : Mem} {B : NT} (h : RMp M B) (hG : GB B) (hV : V (tw B)) : RM M 3402 (tw B) := by
  refine ⟨fun j hj => h 0 j (d0 hj), fun f i hr => h f i (rel_dom hV hr), fun p d hp hd _ => ?_⟩
  have a := h 9 (6 * p + d) (Or.inr ⟨Or.inl rfl, by omega⟩)
  have b := h 10 (6 * p + d) (Or.inr ⟨Or.inr rfl, by omega⟩)
  have e9 : 3402 + mo 9 (6 * p + d) = 3402 + 54 + 6 * p + d := by
    show 3402 + (54 + (6 * p + d)) = _
    omega
  have e10 : 3402 + mo 10 (6 * p + d) = 3402 + 90 + 6 * p + d := by
    show 3402 + (90 + (6 * p + d)) = _
    omega
  rw [e9, tw_at (by decide), hG.2.2.2.2] at a
  rw [e10] at b
  exact ⟨a, fun _ => b⟩
theorem RCp_alk {M M7 : Mem} {B : NT} (h : RCp M B) (hG : GB B) (hV : V (tw B)) (hn : nd (tw B) = B 0 2 ∧ np (tw B) = B 0 3) (hc : ∀ f i, dom f i → M7 (41 + f) i = M (52 + f) i) : Alk (tw B) (cv M7 41) := by
  have hB := hG.1
  refine ⟨fun j hj => ?_, fun f i hr => ?_⟩
  · rw [cv_at _ _ _ _ (by decide), hc 0 j (d0 hj), tw_at (by decide)]
    exact (h.1 j hj).symm
  · have hf := rel_f hr
    rw [cv_at _ _ _ _ (by omega), hc f i (rel_dom hV hr)]
    unfold rel at hr
    rw [hn.1, hn.2] at hr
    rcases hr with ⟨a, b, c⟩ | ⟨a, b, c⟩ | ⟨a, p, d, hp, hd, e⟩
    · rw [tw_at (by omega)]
      rcases (by omega : f = 1 ∨ f = 2) with ef | ef <;> subst ef
      · exact (h.2.1 i c).1.symm
      · exact (h.2.1 i c).2.symm
    · rw [tw_at (by omega)]
      exact (h.2.2.1 f i a b c).symm
    · subst e
      have w := h.2.2.2 p d (by omega) hd
      rcases a with ef | ef <;> subst ef
      · rw [tw_at (by decide), hG.2.2.2.2]
        exact w.1.symm
      · exact w.2.symm
theorem S_town (M : Mem) (n nx : Nat) (h : Hist M n nx) (hT : ITape M) (hF : IFlt M) : w_X8_town M (fun r M1 => w_X9_town M1 (fun r2 M2 => r = r2 ∧ (∃ n nx, Hist M2 n nx) ∧ ITape M2 ∧ IFlt M2 ∧ Fr STown M M2)) := by
  obtain ⟨L, hL, t1, t2, t3⟩ := hT
  obtain ⟨g1, g2, g3, g4, g5⟩ := H_n h
  unfold w_X8_town
  refine C_read (t := M 20) hL t1 (fun x _ => rfl) (fun f p e M1 c1 c2 c3 M3 e3 => ?_) (fun k B e M1 c1 c2 M3 e3 => ?_)
  · refine cr0 (fun v9 e9 M10 e10 => ?_)
    have o1 : ∀ x j, ¬ (x = 19 ∧ 1 ≤ j) → ¬ (52 ≤ x ∧ x ≤ 62) → ¬ (x = 0 ∧ j = 10) → M10 x j = M x j := by
      intro x j h1 h2 h3
      rw [e10, ms_app, if_neg h3, e3, ms_app, if_neg (by omega), c1 x j (fun z => by unfold S3r at z; omega)]
    have p19 : M10 19 2 = nI p := by rw [e10, ms_ne (by decide), e3, ms_ne2 (by decide), c2]
    have p0 : M10 0 10 = nI f := by rw [e10, ms_eq, e9, e3, ms_ne2 (by decide), c3]
    have p1 : M10 19 1 = nI 0 := by rw [e10, ms_ne (by decide), e3, ms_eq]; rfl
    rw [p19]
    show w_X9_town M10 _
    unfold w_X9_town
    refine R_read (t := M 20) hL (by rw [o1 85 7 (by decide) (by decide) (by decide)]; exact t2) (fun x hx => by rw [o1 91 x (by omega) (by omega) (by omega)]; exact (t3 x hx).symm) (fun f2 p2 e' M4 d1 d2 d3 M5 e5 => cr0 (fun v8 e8 M9 e9' => ?_)) (fun k B e' => ?_)
    · rw [e] at e'
      injection e' with e'
      injection e' with x1 x2
      subst x1 x2
      have o2 : ∀ x j, ¬ (x = 85 ∧ (j = 7 ∨ j = 8 ∨ (12 ≤ j ∧ j ≤ 14))) → ¬ (x = 86 ∧ 3402 ≤ j) → M9 x j = M10 x j := by
        intro x j h1 h2
        rw [e9', ms_app, if_neg (by omega), e5, ms_app, if_neg (by omega), d1 x j (fun z => by unfold St9r at z; omega)]
      have q12 : M9 85 12 = nI p := by rw [e9', ms_ne2 (by decide), e5, ms_ne2 (by decide), d2]
      have q8 : M9 85 8 = nI f := by rw [e9', ms_eq, e8, e5, ms_ne2 (by decide), d3]
      have q7 : M9 85 7 = nI 0 := by rw [e9', ms_ne2 (by decide), e5, ms_eq]; rfl
      refine ⟨by rw [q12], ⟨n, nx, Hist_fr h (fun x j hs => ?_)⟩, ⟨0, by decide, ?_, q7, fun i hi => by omega⟩, ?_, fun x j hs => ?_⟩
      · unfold SH at hs
        rw [o2 x j (by omega) (by omega), o1 x j (by omega) (by omega) (by omega)]
      · rw [o2 19 1 (by decide) (by decide)]; exact p1
      · unfold IFlt
        rw [q8, o2 0 10 (by decide) (by decide), p0]
      · unfold STown at hs
        rw [o2 x j (by omega) (by omega), o1 x j (by omega) (by omega) (by omega)]
    · rw [e] at e'
      cases e'
  · refine cr1 (W6_become (by omega) (fun M5 b1 b2 => ?_))
    intro M7 e7
    obtain ⟨hG, hd, hp⟩ := twS_ok e
    obtain ⟨hV, n1, n2', n3, n4⟩ := GB_V hG hd hp
    have c7 : ∀ f i, dom f i → M7 (41 + f) i = M1 (52 + f) i := by
      intro f i hd2
      have : f ≤ 10 := by unfold dom at hd2; omega
      rw [e7, ms_app, if_neg (by omega), b1 f i hd2, e3, ms_app, if_neg (by omega)]
    have ha : Alk (tw B) (cv M7 41) := RCp_alk c2 hG hV ⟨n2', n3⟩ c7
    have k3 : M7 41 3 = nI (B 0 3) := (c7 0 3 (d0 (by decide))).trans (c2.1 3 (by decide))
    have o1 : ∀ x j, ¬ (x = 19 ∧ 1 ≤ j) → ¬ (41 ≤ x ∧ x ≤ 62) → ¬ (x = 21 ∧ j = 6) → M7 x j = M x j := by
      intro x j h1 h2 h3
      rw [e7, ms_app, if_neg h3, b2 x j (by omega), e3, ms_app, if_neg (by omega), c1 x j (fun z => by unfold S3r at z; omega)]
    have p1 : M7 19 1 = nI 0 := by rw [e7, ms_ne (by decide), b2 _ _ (by decide), e3, ms_eq]; rfl
    have p6 : M7 21 6 = nI 0 := by rw [e7, ms_eq]; rfl
    rw [k3]
    show w_X9_town M7 _
    unfold w_X9_town
    refine R_read (t := M 20) hL (by rw [o1 85 7 (by decide) (by decide) (by decide)]; exact t2) (fun x hx => by rw [o1 91 x (by omega) (by omega) (by omega)]; exact (t3 x hx).symm) (fun f2 p2 e' => ?_) (fun k2 B2 e' M4 d1 d2 M8 e8 => cr1 ?_)
    · rw [e] at e'
      cases e'
    · rw [e] at e'
      obtain ⟨z1, z2⟩ := Rs_r e'
      subst z1 z2
      show w_X9_copyTown M8 (nI 3402) (nI 0) _
      refine W9_copyTown (by decide) (by decide) (by decide) (fun M9 e9 => ?_)
      have c8 : ∀ x, M8 86 x = M4 86 x := fun x => by rw [e8, ms_ne (by decide)]
      have c9 : ∀ x, x < 126 → M9 86 (0 + x) = M4 86 (3402 + x) := by
        intro x hx
        rw [e9, ms_ne (by decide), cpT_app, if_pos (by omega), c8]
        exact congrArg (M4 86) (by omega)
      have o2 : ∀ x j, ¬ (x = 85 ∧ (j = 1 ∨ j = 7 ∨ (12 ≤ j ∧ j ≤ 14))) → ¬ (x = 86 ∧ (j < 126 ∨ 3402 ≤ j)) → M9 x j = M7 x j := by
        intro x j h1 h2
        rw [e9, ms_app, if_neg (by omega), cpT_app, if_neg (by omega), e8, ms_app, if_neg (by omega), d1 x j (fun z => by unfold St9r at z; omega)]
      have ec : cv M9 41 = cv M7 41 := cv_eq (fun f i hf => o2 _ _ (by omega) (by omega))
      have r3 : M9 86 3 = nI (B 0 3) := (c9 3 (by decide)).trans (RMp_s d2).2.2.1
      refine ⟨by rw [r3], ⟨0, nx, by omega, ⟨g2, ?_⟩, ?_, ?_, ?_, fun i hi => ?_, fun i hi => absurd hi (by omega)⟩, ⟨0, by decide, ?_, ?_, fun i hi => by omega⟩, ?_, fun x j hs => ?_⟩
      · rw [ec]
        unfold na at n4 ⊢
        rw [← ha.1 5 (by decide), n4]
        decide
      · rw [o2 21 6 (by decide) (by decide)]; exact p6
      · rw [e9, ms_eq]; rfl
      · rw [o2 21 5 (by decide) (by decide), o1 21 5 (by decide) (by decide) (by decide)]; exact g5
      · have hi : i = 0 := by omega
        subst hi
        show V (cv M9 41) ∧ RM M9 0 (cv M9 41)
        rw [ec]
        exact ⟨V_alk hV ha, RM_alk (RM_mv (RMp_RM d2 hG hV) hV c9) ha⟩
      · rw [o2 19 1 (by decide) (by decide)]; exact p1
      · rw [e9, ms_ne2 (by decide), cpT_app, if_neg (by omega), e8, ms_eq]; rfl
      · unfold IFlt at hF ⊢
        rw [o2 0 10 (by decide) (by decide), o1 0 10 (by decide) (by decide) (by decide), o2 85 8 (by decide) (by decide), o1 85 8 (by decide) (by decide) (by decide)]
        exact hF
      · unfold STown at hs
        rw [o2 x j (by omega) (by omega), o1 x j (by omega) (by omega) (by omega)]
