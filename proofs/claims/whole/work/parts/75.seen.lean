/-! what was seen: bents, who -/
def SeenP (A : Tn) (x1 x2 x3 x4 : Int32) : Prop := isIx x1 (np A) ∧ isIx x2 (np A) ∧ ¬ x1 = x2 ∧ isIx x3 8 ∧ 1 ≤ x4 ∧ x4 ≤ nI (nd A)
section SN
variable {M : Mem} {A : Tn} {x1 x2 x3 x4 : Int32} {Q : Int32 → Mem → Prop}
theorem Sn8 (hC : RC M 41 A) (hV : V A) (q : Q (bI (SeenP A x1 x2 x3 x4)) M) : w_X8_isSeen M x1 x2 x3 x4 Q := by
  have e2 : M 41 2 = nI (nd A) := (hC.1 2 (by decide)).trans (V_nd hV).1
  have no : ¬ SeenP A x1 x2 x3 x4 → Q 0 M := fun h => by rw [bI_f h] at q; exact q
  unfold w_X8_isSeen
  refine P8 hC hV (fun o ho eo => br1 (P8 hC hV (fun p hp ep => br1 ⟨fun z => no (fun h => h.2.2.1 z), fun z => ?_⟩) (fun h => br0 (no (fun g => h g.2.1))))) (fun h => br0 (no (fun g => h g.1)))
  rw [W8w8]
  by_cases h8 : isIx x3 8
  · rw [bI_t h8]
    refine br1 ⟨fun y => no (fun g => absurd y (Int32.not_lt.mpr g.2.2.2.2.1)), fun y => ?_⟩
    rw [e2]
    refine ⟨fun w => no (fun g => absurd w (Int32.not_lt.mpr g.2.2.2.2.2)), fun w => ?_⟩
    rw [bI_t ⟨⟨o, ho, eo⟩, ⟨p, hp, ep⟩, z, h8, Int32.not_lt.mp y, Int32.not_lt.mp w⟩] at q
    exact q
  · rw [bI_f h8]
    exact br0 (no (fun g => h8 g.2.2.2.1))
theorem Sn9 (hM : RM M 0 A) (hV : V A) (q : Q (bI (SeenP A x1 x2 x3 x4)) M) : w_X9_isAsked M x1 x2 x3 x4 Q := by
  have e2 : M 86 2 = nI (nd A) := (RM0 hM (j := 2) (by decide)).trans (V_nd hV).1
  have no : ¬ SeenP A x1 x2 x3 x4 → Q 0 M := fun h => by rw [bI_f h] at q; exact q
  unfold w_X9_isAsked
  refine P9 hM hV (fun o ho eo => br1 (P9 hM hV (fun p hp ep => br1 ⟨fun z => no (fun h => h.2.2.1 z), fun z => ?_⟩) (fun h => br0 (no (fun g => h g.2.1))))) (fun h => br0 (no (fun g => h g.1)))
  rw [W9ir]
  by_cases h8 : isIx x3 8
  · rw [bI_t h8]
    refine br1 ?_
    rw [e2, show (1 : Int64) = (1 : Int32).toInt64 from by decide, W9_inI]
    by_cases hb : 1 ≤ x4 ∧ x4 ≤ nI (nd A)
    · rw [bI_t hb]
      rw [bI_t ⟨⟨o, ho, eo⟩, ⟨p, hp, ep⟩, z, h8, hb.1, hb.2⟩] at q
      exact br1 q
    · rw [bI_f hb]
      exact br0 (no (fun g => hb ⟨g.2.2.2.2.1, g.2.2.2.2.2⟩))
  · rw [bI_f h8]
    exact br0 (no (fun g => h8 g.2.2.2.1))
theorem Seen_n (hV : V A) (h : SeenP A x1 x2 x3 x4) : ∃ o p r n, o < np A ∧ p < np A ∧ o ≠ p ∧ r < 8 ∧ 1 ≤ n ∧ n ≤ nd A ∧ x1 = nI o ∧ x2 = nI p ∧ x3 = nI r ∧ x4 = nI n := by
  obtain ⟨⟨o, ho, eo⟩, ⟨p, hp, ep⟩, hne, ⟨r, hr, er⟩, h1, h2⟩ := h
  have hd := (V_nd hV).2
  have hpos : ¬ x4 < 0 := by
    intro h
    rw [fa_lt] at h
    rw [fa_le] at h1
    have z0 : (0 : Int32).toInt = 0 := by decide
    have z1 : (1 : Int32).toInt = 1 := by decide
    omega
  obtain ⟨n, hn, en⟩ := nI_of hpos
  refine ⟨o, p, r, n, ho, hp, fun e => hne (by rw [eo, ep, e]), hr, ?_, ?_, eo, ep, er, en⟩
  · rw [en] at h1
    exact (nI_leI (a := 1) (by decide) hn).mp h1
  · rw [en] at h2
    exact (nI_leI hn (by omega)).mp h2
end SN
/-- the DOORS open just as told -/
def So (B : Tn) (c : Nat) (f : Nat → Int32) (n : Nat) : Prop := ∀ d, d < n → f d = -1 ∨ f d = bI (Op B c d allA)
section SO
variable {M : Mem} {B : Tn} {c i n : Nat} {f : Nat → Int32} {Q : Int32 → Mem → Prop}
theorem W8_isSo {k2 : Nat} (hA : RC M 52 B) (hV : V B) (hc : c < np B) (hn : n ≤ nd B) (hi : i + n ≤ 40) (hk : k2 ≤ 17) (hf : ∀ d, d < n → M (k2 + 1) (i + d) = f d) (q : ∀ M2, Fr SBal M M2 → Q (bI (So B c f n)) M2) : w_X8_isSo k2 M (nI c) (nI i) (nI n) Q := by
  have hd6 := (V_nd hV).2
  have go : ∀ m d : Nat, d + m = n → ∀ M1, Fr SBal M M1 → (∀ e, e < d → f e = -1 ∨ f e = bI (Op B c e allA)) → wL_X8_isSo_3 k2 Q (m + 1) M1 (nI c) (nI i) (nI n) (nI d) := by
    intro m
    induction m with
    | zero =>
      intro d hd M1 hF hs
      have hd : d = n := by omega
      subst hd
      refine ⟨fun _ => ?_, fun e => absurd (nI_le (Nat.le_refl _) (by omega)) e⟩
      have := q M1 hF
      rw [bI_t (show So B c f d from hs)] at this
      exact this
    | succ m ih =>
      intro d hd M1 hF hs
      refine ⟨fun e => absurd e (nI_ge (by omega) (by omega)), fun _ => ?_⟩
      rw [nI_add]
      intro v2 e2
      rw [e2, ix_nat (by omega), hF _ _ (by unfold SBal; omega), hf d (by omega)]
      refine ⟨vp_in_nI (by omega) (by decide), fun v4 e4 => ?_⟩
      rw [e4]
      have goon : ∀ M2, Fr SBal M M2 → (f d = -1 ∨ f d = bI (Op B c d allA)) → wL_X8_isSo_3 k2 Q (m + 1) M2 (nI c) (nI i) (nI n) (nI (d + 1)) := by
        intro M2 hF2 hh
        refine ih (d + 1) (by omega) M2 hF2 (fun e he => ?_)
        by_cases ee : e = d
        · rw [ee]; exact hh
        · exact hs e (by omega)
      refine ⟨fun z v6 e6 => ?_, fun z => ?_⟩
      · rw [e6, nI_1]; exact goon M1 hF (Or.inl z)
      · refine W8_opens (RC_bal hA (by decide) hF) (by decide) hV hc (show d < nd B by omega) (fun M2 hF2 => ?_)
        have hF2 := Fr_tr hF hF2
        have fin : ∀ b : Int32, b = bI (Op B c d allA) → wJ_X8_isSo_48 k2 Q (wL_X8_isSo_3 k2 Q (m + 1)) M2 (nI c) (nI i) (nI n) (nI d) (f d) b := by
          intro b eb
          refine ⟨fun y v2 e2 => ?_, fun y => ?_⟩
          · rw [e2, nI_1]; exact goon M2 hF2 (Or.inr (y.trans eb))
          · have := q M2 hF2
            rw [bI_f (fun h => (h d (by omega)).elim z (fun h => y (h.trans eb.symm)))] at this
            exact this
        by_cases ho : Op B c d allA
        · rw [bI_t ho] at fin ⊢
          exact br1 (fin 1 rfl)
        · rw [bI_f ho] at fin ⊢
          exact br0 (fin 0 rfl)
  exact ⟨n + 1, go n 0 (by omega) M (Fr_rf _ _) (fun e he => absurd he (by omega))⟩
theorem W9_isSo {r : Nat} (hA : RM M 3402 B) (hV : V B) (h0 : M 85 15 = 0) (hc : c < np B) (hn : n ≤ nd B) (hi : i + n ≤ 40) (hr : r < 8) (hf : ∀ d, d < n → M 90 (40 * r + i + d) = f d) (q : Q (bI (So B c f n)) M) : w_X9_isSo M (nI c) (nI r) (nI i) (nI n) Q := by
  have hd6 := (V_nd hV).2
  have stop : ∀ m d : Nat, d ≤ n → ¬ So B c f n → wL_X9_isSo_6 Q (m + 1) M (nI c) (nI r) (nI i) (nI n) 0 (nI d) := by
    intro m d hd hs
    rw [bI_f hs] at q
    exact ⟨fun _ => ⟨Or.inl rfl, q⟩, fun _ => ⟨fun _ => ⟨Or.inl rfl, q⟩, fun e => absurd rfl e⟩⟩
  have go : ∀ m d : Nat, d + m = n → (∀ e, e < d → f e = -1 ∨ f e = bI (Op B c e allA)) → wL_X9_isSo_6 Q (m + 1) M (nI c) (nI r) (nI i) (nI n) 1 (nI d) := by
    intro m
    induction m with
    | zero =>
      intro d hd hs
      have hd : d = n := by omega
      subst hd
      rw [bI_t (show So B c f d from hs)] at q
      exact ⟨fun _ => ⟨Or.inr rfl, q⟩, fun e => absurd (nI_le (Nat.le_refl _) (by omega)) e⟩
    | succ m ih =>
      intro d hd hs
      refine ⟨fun e => absurd e (nI_ge (by omega) (by omega)), fun _ => ⟨fun e => absurd e (by decide), fun _ => ?_⟩⟩
      rw [lin40b]
      intro v3 e3
      rw [e3, ix_nat (by omega), hf d (by omega)]
      refine ⟨vp_in_nI (by omega) (by decide), fun v5 e5 => ?_⟩
      rw [e5]
      have goon : (f d = -1 ∨ f d = bI (Op B c d allA)) → wL_X9_isSo_6 Q (m + 1) M (nI c) (nI r) (nI i) (nI n) 1 (nI (d + 1)) := by
        intro hh
        refine ih (d + 1) (by omega) (fun e he => ?_)
        by_cases ee : e = d
        · rw [ee]; exact hh
        · exact hs e (by omega)
      have j51 : ¬ f d = -1 → (f d = 0 ∨ f d = 1) → wJ_X9_isSo_51 Q (wL_X9_isSo_6 Q (m + 1)) M (nI c) (nI r) (nI i) (nI n) (nI d) (f d) := by
        intro z h01
        unfold wJ_X9_isSo_51
        refine W9_open0 (B := 3402) hA (by decide) hV h0 hc (show d < nd B by omega) ?_
        have j72 : ∀ s1 : Int32, f d = s1 → wJ_X9_isSo_72 Q (wL_X9_isSo_6 Q (m + 1)) M (nI c) (nI r) (nI i) (nI n) (nI d) (bI (Op B c d allA)) s1 := by
          intro s1 e1
          refine ⟨fun y v2 e2 => ?_, fun y v3 e3 => ?_⟩
          · rw [e2, nI_1]
            refine stop m (d + 1) (by omega) (fun h => (h d (by omega)).elim z (fun h => y (h.symm.trans e1)))
          · rw [e3, nI_1]
            exact goon (Or.inr (e1.trans y.symm))
        refine ⟨fun y => j72 0 (h01.elim id (fun h => absurd h y)), fun y => j72 1 y⟩
      refine ⟨fun z v7 e7 => ?_, fun z => ⟨fun y => j51 z (Or.inl y), fun y => ⟨fun w v10 e10 => ?_, fun w => j51 z (Or.inr w)⟩⟩⟩
      · rw [e7, nI_1]; exact goon (Or.inl z)
      · rw [e10, nI_1]
        refine stop m (d + 1) (by omega) (fun h => (h d (by omega)).elim z (fun h => ?_))
        rcases bIz (Op B c d allA) with g | g
        · exact y (h.trans g)
        · exact w (h.trans g)
  exact ⟨n + 1, go n 0 (by omega) (fun e he => absurd he (by omega))⟩
end SO
theorem RC_bec {M M2 : Mem} {T U : Nat} {A : Tn} (hA : RC M U A) (hV : V A) (h : ∀ f j, dom f j → M2 (T + f) j = M (U + f) j) : RC M2 T A :=
  ⟨fun j hj => (h 0 j (Or.inl ⟨by decide, hj⟩)).trans (hA.1 j hj), fun f i hr => (h f i (rel_dom hV hr)).trans (hA.2 f i hr)⟩
theorem ms_rel {A : Tn} {f i : Nat} {v : Int32} (hf : 1 ≤ f) (g j : Nat) : rel (ms A f i v) g j ↔ rel A g j := rel_sc (by rw [ms_ne (by omega)]) (by rw [ms_ne (by omega)]) g j
theorem RC_ms {M : Mem} {T f i : Nat} {A : Tn} {v : Int32} (hA : RC M T A) (hf : 1 ≤ f) : RC (ms M (T + f) i v) T (ms A f i v) := by
  refine ⟨fun j hj => ?_, fun g j hr => ?_⟩
  · rw [ms_ne (by omega), ms_ne (by omega)]; exact hA.1 j hj
  · have hr := (ms_rel hf g j).mp hr
    rw [ms_app, ms_app]
    by_cases e : g = f ∧ j = i
    · rw [if_pos (by omega), if_pos e]
    · rw [if_neg (by omega), if_neg e]; exact hA.2 g j hr
theorem ms_ms (A : Tn) (f i : Nat) (v w : Int32) : ms (ms A f i v) f i w = ms A f i w := by
  funext g j
  rw [ms_app, ms_app, ms_app]
  split <;> rfl
theorem ms_id (A : Tn) (f i : Nat) : ms A f i (A f i) = A := by
  funext g j
  rw [ms_app]
  by_cases e : g = f ∧ j = i
  · rw [if_pos e, e.1, e.2]
  · rw [if_neg e]
theorem V_bent {A : Tn} {p b : Nat} (h : V A) (hb : b ≤ 6) : V (ms A 5 p (nI b)) := by
  obtain ⟨h0, hd, hp, ht⟩ := h
  have e : ∀ f i, f ≠ 5 → ms A 5 p (nI b) f i = A f i := fun f i hf => by rw [ms_ne hf]
  have en : ∀ f i, f ≠ 5 → na (ms A 5 p (nI b)) f i = na A f i := fun f i hf => by unfold na; rw [e f i hf]
  have n0 : nr (ms A 5 p (nI b)) = nr A := en 0 0 (by decide)
  have n1 : nd (ms A 5 p (nI b)) = nd A := en 0 2 (by decide)
  have n2 : np (ms A 5 p (nI b)) = np A := en 0 3 (by decide)
  unfold V
  rw [n0, n1, n2, en 0 1 (by decide), en 0 4 (by decide), en 0 5 (by decide), e 0 0 (by decide), e 0 1 (by decide), e 0 2 (by decide), e 0 3 (by decide), e 0 4 (by decide), e 0 5 (by decide)]
  refine ⟨h0, fun d hd2 => ?_, fun q hq => ?_, fun q d hq hd2 => ?_⟩
  · rw [en 1 d (by decide), en 2 d (by decide), e 1 d (by decide), e 2 d (by decide)]
    exact hd d hd2
  · rw [en 3 q (by decide), en 4 q (by decide), en 7 q (by decide), en 8 q (by decide), e 3 q (by decide), e 4 q (by decide), e 6 q (by decide), e 7 q (by decide), e 8 q (by decide)]
    obtain ⟨a1, a2, a3, a4, a5, a6, a7, a8⟩ := hp q hq
    by_cases eq : q = p
    · have e5 : ms A 5 p (nI b) 5 q = nI b := by rw [eq, ms_eq]
      have n5 : na (ms A 5 p (nI b)) 5 q = b := by unfold na; rw [e5, ix_nat (by omega)]
      rw [e5, n5]
      exact ⟨a1, a2, a3, a4, a5, rfl, hb, a8⟩
    · have e5 : ms A 5 p (nI b) 5 q = A 5 q := by rw [ms_ne2 eq]
      have n5 : na (ms A 5 p (nI b)) 5 q = na A 5 q := by unfold na; rw [e5]
      rw [e5, n5]
      exact ⟨a1, a2, a3, a4, a5, a6, a7, a8⟩
  · rw [en 9 _ (by decide), e 9 _ (by decide)]
    exact ht q d hq hd2
theorem V_kind {A : Tn} {p b : Nat} (h : V A) (hb1 : 1 ≤ b) (hb : b ≤ 5) : V (ms A 3 p (nI b)) := by
  obtain ⟨h0, hd, hp, ht⟩ := h
  have e : ∀ f i, f ≠ 3 → ms A 3 p (nI b) f i = A f i := fun f i hf => by rw [ms_ne hf]
  have en : ∀ f i, f ≠ 3 → na (ms A 3 p (nI b)) f i = na A f i := fun f i hf => by unfold na; rw [e f i hf]
  have n0 : nr (ms A 3 p (nI b)) = nr A := en 0 0 (by decide)
  have n1 : nd (ms A 3 p (nI b)) = nd A := en 0 2 (by decide)
  have n2 : np (ms A 3 p (nI b)) = np A := en 0 3 (by decide)
  unfold V
  rw [n0, n1, n2, en 0 1 (by decide), en 0 4 (by decide), en 0 5 (by decide), e 0 0 (by decide), e 0 1 (by decide), e 0 2 (by decide), e 0 3 (by decide), e 0 4 (by decide), e 0 5 (by decide)]
  refine ⟨h0, fun d hd2 => ?_, fun q hq => ?_, fun q d hq hd2 => ?_⟩
  · rw [en 1 d (by decide), en 2 d (by decide), e 1 d (by decide), e 2 d (by decide)]
    exact hd d hd2
  · rw [en 5 q (by decide), en 4 q (by decide), en 7 q (by decide), en 8 q (by decide), e 5 q (by decide), e 4 q (by decide), e 6 q (by decide), e 7 q (by decide), e 8 q (by decide)]
    obtain ⟨a1, a2, a3, a4⟩ := hp q hq
    by_cases eq : q = p
    · have e5 : ms A 3 p (nI b) 3 q = nI b := by rw [eq, ms_eq]
      have n5 : na (ms A 3 p (nI b)) 3 q = b := by unfold na; rw [e5, ix_nat (by omega)]
      rw [e5, n5]
      exact ⟨rfl, hb1, hb, a4⟩
    · have e5 : ms A 3 p (nI b) 3 q = A 3 q := by rw [ms_ne2 eq]
      have n5 : na (ms A 3 p (nI b)) 3 q = na A 3 q := by unfold na; rw [e5]
      rw [e5, n5]
      exact ⟨a1, a2, a3, a4⟩
  · rw [en 9 _ (by decide), e 9 _ (by decide)]
    exact ht q d hq hd2
theorem ms_n {A : Tn} {f i : Nat} {v : Int32} (hf : 1 ≤ f) : nr (ms A f i v) = nr A ∧ nd (ms A f i v) = nd A ∧ np (ms A f i v) = np A := by
  unfold nr nd np na
  rw [ms_ne (by omega)]
  exact ⟨rfl, rfl, rfl⟩
theorem RM_scr {M M2 : Mem} {A : Tn} (h : RM M 0 A) (hV : V A) (hf : Fr SScr M M2) : RM M2 0 A := RM_fr h hV (fun i hi => hf _ _ (by unfold SScr; omega))
/-- one number of a spare TOWN of the reference -/
theorem RM_ms2 {M : Mem} {B f p : Nat} {A : Tn} {v w : Int32} (h : RM M B (ms A f p v)) (hV : V (ms A f p v)) (h1 : 3 ≤ f) (h2 : f ≤ 8) (hp : p < np A) : RM (ms M 86 (B + 6 * f + p) w) B (ms A f p w) := by
  have := RM_ms (f := f) (i := p) (v := w) h hV (Or.inl (rel_p h1 h2 (by rw [(ms_n (by omega)).2.2]; exact hp)))
  rw [ms_ms] at this
  have e : B + mo f p = B + 6 * f + p := by
    unfold mo
    rw [if_neg (by omega), if_neg (by omega), if_neg (by omega), if_pos (by omega)]; omega
  rw [e] at this
  exact this
