def SSS (k j : Nat) : Prop := SScr k j ∨ Sst k j
def PSt (M : Mem) (r r2 : Int32) (M2 : Mem) : Prop := r = r2 ∧ IStat M2 ∧ Fr SSS M M2
theorem scr_SSS {k j : Nat} (h : SScr k j) : SSS k j := Or.inl h
theorem pst_fnd (M : Mem) (v r : Int32) : PSt M r r (ms (ms M 0 11 v) 85 9 v) := ⟨rfl, (fnd4 M v).1, Fr_mono (fnd4 M v).2 (fun _ _ h => Or.inr h)⟩
theorem pst_same {M : Mem} (h : IStat M) (r : Int32) : PSt M r r M := ⟨rfl, h, Fr_rf _ _⟩
theorem pst_end {M M1 M2 : Mem} (r : Int32) (h1 : Fr SScr M M1) (h2 : Fr SScr (ms M1 0 11 0) M2) : PSt M r r (ms M2 85 9 0) := by
  have k : M2 0 11 = 0 := by rw [h2 0 11 (by unfold SScr; omega), ms_eq]
  refine ⟨rfl, ?_, ?_⟩
  · unfold IStat
    rw [ms_ne (by decide), ms_eq, k]
  · refine Fr_ms (Fr_tr (Fr_ms (Fr_mono h1 (fun _ _ h => Or.inl h)) _ ?_) (Fr_mono h2 (fun _ _ h => Or.inl h))) _ ?_
    · exact Or.inr (Or.inl ⟨rfl, rfl⟩)
    · exact Or.inr (Or.inr ⟨rfl, rfl⟩)
theorem bn {v : Int32} {P1 P2 : Prop} (hv : ¬ v = 0) (h : P2) : (v = 0 → P1) ∧ (¬ v = 0 → P2) := ⟨fun e => absurd e hv, fun _ => h⟩
theorem N9_no {M : Mem} {r : Nat} {x y : Int32} {Q : Int32 → Mem → Prop} (hr : r < 8) (h : M 89 r = -1) (q : Q (-1000011) (ms M 85 9 1)) : w_X9_noItems M (nI r) x y Q := by
  unfold w_X9_noItems
  rw [ix_nat (by omega), h]
  refine ⟨vp_in_nI hr (by decide), fun z => absurd z nge0, fun _ => ?_⟩
  rw [W9fi]; exact q
theorem N9_sp {M : Mem} {r z : Nat} {x y : Int32} {Q : Int32 → Mem → Prop} (hr : r < 8) (hz : z ≤ 40) (h : M 89 r = nI z) (q0 : span x y z → Q 0 M) (q2 : ¬ span x y z → Q (-1000012) (ms M 85 9 2)) : w_X9_noItems M (nI r) x y Q := by
  unfold w_X9_noItems
  rw [ix_nat (by omega), h]
  refine ⟨vp_in_nI hr (by decide), fun _ => ?_, fun y => absurd (nI_pos' (by omega)) y⟩
  rw [W9_span hr h hz]
  by_cases hs : span x y z
  · rw [bI_t hs]; exact br1 (q0 hs)
  · rw [bI_f hs]
    refine br0 ?_
    rw [W9fi]; exact q2 hs
/-- the least number below 7 of which pb tells, from 7 - t on -/
def lsT (pb : Nat → Bool) : Nat → Int32
  | 0 => -1000000
  | t + 1 => if pb (6 - t) then nI (6 - t) else lsT pb t
theorem lsT_skip {pb : Nat → Bool} : ∀ j, j ≤ 7 → fb_ct pb j = 0 → lsT pb 7 = lsT pb (7 - j)
  | 0, _, _ => rfl
  | j + 1, hj, h => by
    rw [fb_ct_succ] at h
    have ih := lsT_skip (pb := pb) j (by omega) (by omega)
    rw [ih, show 7 - j = (7 - (j + 1)) + 1 by omega]
    have hb : ¬ pb j = true := fun e => by rw [if_pos e] at h; omega
    show (if pb (6 - (7 - (j + 1))) then _ else _) = _
    rw [show 6 - (7 - (j + 1)) = j by omega, if_neg hb]
section BE
variable {M : Mem} {A : Tn} {o p r i n : Nat} {f : Nat → Int32} {x : Int32}
theorem B8 {Q : Int32 → Mem → Prop} (hA : RC M 52 A) (hV : V A) (ho : o < np A) (hp : p < np A) (hr : r < 8) (hn : n ≤ nd A) (hi : i + n ≤ 40) (hf : ∀ d, d < n → M (3 + 2 * r + 1) (i + d) = f d) (q : ∀ M2, Fr SScr M M2 → (x = 0 → Q (nI (fb_ct (fun b => cb (So (ms A 5 o (nI b)) p f n)) 7)) (ms M2 0 11 0)) ∧ (¬ x = 0 → Q (lsT (fun b => cb (So (ms A 5 o (nI b)) p f n)) 7) (ms M2 0 11 0))) : ∃ n13 : Nat, wL_X8_bents_74 Q n13 M (nI o) (nI p) (nI r) (nI i) (nI n) x 0 (-1000000) 6 := by
  have hn6 := (V_np hV).2
  have hd6 := (V_nd hV).2
  have go : ∀ j, j ≤ 7 → ∀ (M1 : Mem) (v : Int32), Fr SScr M M1 → RC M1 52 (ms A 5 o v) → wL_X8_bents_74 Q (j + 1) M1 (nI o) (nI p) (nI r) (nI i) (nI n) x (nI (fb_ct (fun b => cb (So (ms A 5 o (nI b)) p f n)) 7 - fb_ct (fun b => cb (So (ms A 5 o (nI b)) p f n)) j)) (lsT (fun b => cb (So (ms A 5 o (nI b)) p f n)) (7 - j)) (nI j - 1) := by
    intro j
    induction j with
    | zero =>
      intro _ M1 v hF hR
      refine ⟨fun _ => ?_, fun e => absurd (by decide) e⟩
      rw [W8un, W8un]
      exact ⟨fun z => (q M1 hF).2 z, fun z => (q M1 hF).1 z⟩
    | succ k ih =>
      intro hj M1 v hF hR
      rw [nI_pred]
      refine ⟨fun e => absurd e (nI_pos (by omega)), fun _ => ⟨vp_in_nI (by omega) (by decide), fun M8 e8 => ⟨vp_in_nI hr (by decide), ?_⟩⟩⟩
      rw [ix_nat (by omega)] at e8
      have hR8 : RC M8 52 (ms A 5 o (nI k)) := by
        have := RC_ms (f := 5) (i := o) (v := nI k) hR (by decide)
        rw [ms_ms] at this
        rw [e8]; exact this
      have hF8 : Fr SScr M M8 := by rw [e8]; exact Fr_ms hF _ (by unfold SScr; omega)
      obtain ⟨-, en, ep⟩ := ms_n (A := A) (f := 5) (i := o) (v := nI k) (by decide)
      rw [ix_nat (by omega)]
      refine W8_isSo (f := f) hR8 (V_bent hV (by omega)) (by rw [ep]; exact hp) (by rw [en]; exact hn) hi (by omega) (fun d hd => by rw [hF8 _ _ (by unfold SScr; omega)]; exact hf d hd) (fun M10 hF10 => ?_)
      have hF10' := Fr_tr hF8 (Fr_mono hF10 (fun k j h => bal_scr h))
      have hR10 := RC_bal hR8 (by decide) hF10
      have hh := ih (by omega) M10 _ hF10' hR10
      have hct := fb_ct_mono (fun b => cb (So (ms A 5 o (nI b)) p f n)) (show k + 1 ≤ 7 by omega)
      have hs := fb_ct_succ (fun b => cb (So (ms A 5 o (nI b)) p f n)) k
      have hls : lsT (fun b => cb (So (ms A 5 o (nI b)) p f n)) (7 - k) = if cb (So (ms A 5 o (nI k)) p f n) then nI k else lsT (fun b => cb (So (ms A 5 o (nI b)) p f n)) (7 - (k + 1)) := by
        rw [show 7 - k = (7 - (k + 1)) + 1 by omega]
        show (if cb (So (ms A 5 o (nI (6 - (7 - (k + 1))))) p f n) then nI (6 - (7 - (k + 1))) else _) = _
        rw [show 6 - (7 - (k + 1)) = k by omega]
      rw [hls] at hh
      by_cases hso : So (ms A 5 o (nI k)) p f n
      · rw [bI_t hso]
        rw [if_pos (cb_t.mpr hso)] at hh hs
        refine br1 (fun v14 e14 v15 e15 => ?_)
        rw [e14, e15, nI_1, ← Int32.sub_eq_add_neg]
        rw [show fb_ct (fun b => cb (So (ms A 5 o (nI b)) p f n)) 7 - fb_ct (fun b => cb (So (ms A 5 o (nI b)) p f n)) (k + 1) + 1 = fb_ct (fun b => cb (So (ms A 5 o (nI b)) p f n)) 7 - fb_ct (fun b => cb (So (ms A 5 o (nI b)) p f n)) k by omega]
        exact hh
      · rw [bI_f hso]
        rw [if_neg (fun e => hso (cb_t.mp e))] at hh hs
        refine br0 (fun v13 e13 => ?_)
        rw [e13, ← Int32.sub_eq_add_neg, hs, Nat.add_zero]
        exact hh
  refine ⟨8, ?_⟩
  have h := go 7 (Nat.le_refl _) M (A 5 o) (Fr_rf _ _) (by rw [ms_id]; exact hA)
  rw [Nat.sub_self] at h
  exact h
theorem B9 {Q : Int32 → Mem → Prop} (hA : RM M 3402 A) (hV : V A) (h0 : M 85 15 = 0) (ho : o < np A) (hp : p < np A) (hr : r < 8) (hn : n ≤ nd A) (hi : i + n ≤ 40) (hf : ∀ d, d < n → M 90 (40 * r + i + d) = f d) (q : ∀ M2, Fr SScr M M2 → (x = 0 → Q (nI (fb_ct (fun b => cb (So (ms A 5 o (nI b)) p f n)) 7)) (ms M2 85 9 0)) ∧ (¬ x = 0 → Q (lsT (fun b => cb (So (ms A 5 o (nI b)) p f n)) 7) (ms M2 85 9 0))) : ∃ n12 : Nat, wL_X9_bents_63 Q n12 M (nI o) (nI p) (nI r) (nI i) (nI n) x 0 (-1000000) 0 := by
  have hn6 := (V_np hV).2
  have hd6 := (V_nd hV).2
  generalize hpb : (fun b => cb (So (ms A 5 o (nI b)) p f n)) = pb at q
  have hpbv : ∀ b, pb b = cb (So (ms A 5 o (nI b)) p f n) := fun b => by rw [← hpb]
  have go : ∀ m j, j + m = 7 → ∀ (M1 : Mem) (v x9 : Int32), Fr SScr M M1 → V (ms A 5 o v) → RM M1 3402 (ms A 5 o v) → (fb_ct pb j = 0 → x9 = -1000000) → (¬ fb_ct pb j = 0 → x9 = lsT pb 7) → wL_X9_bents_63 Q (m + 1) M1 (nI o) (nI p) (nI r) (nI i) (nI n) x (nI (fb_ct pb j)) x9 (nI j) := by
    intro m
    induction m with
    | zero =>
      intro j hj M1 v x9 hF hV1 hR h1 h2
      have hj : j = 7 := by omega
      subst hj
      refine ⟨fun _ => ?_, fun e => absurd (by decide) e⟩
      rw [W9we, W9we]
      have hx9 : x9 = lsT pb 7 := by
        by_cases z : fb_ct pb 7 = 0
        · rw [h1 z, lsT_skip 7 (Nat.le_refl _) z]; rfl
        · exact h2 z
      rw [hx9]
      exact ⟨fun z => (q M1 hF).2 z, fun z => (q M1 hF).1 z⟩
    | succ m ih =>
      intro j hj M1 v x9 hF hV1 hR h1 h2
      refine ⟨fun e => absurd e (nI_ge (a := j) (b := 7) (by omega) (by decide)), fun _ => ?_⟩
      rw [show 3432 + nI o = nI (3432 + o) from lin2 3432 o]
      refine ⟨vp_in_nI (by omega) (by decide), fun M8 e8 => ?_⟩
      rw [ix_nat (by omega)] at e8
      have hV8 : V (ms A 5 o (nI j)) := V_bent hV (by omega)
      have hR8 : RM M8 3402 (ms A 5 o (nI j)) := by rw [e8]; exact RM_ms2 (f := 5) hR hV1 (by decide) (by decide) ho
      have hF8 : Fr SScr M M8 := by rw [e8]; exact Fr_ms hF _ (by unfold SScr; omega)
      obtain ⟨-, en, ep⟩ := ms_n (A := A) (f := 5) (i := o) (v := nI j) (by decide)
      refine W9_isSo (f := f) hR8 hV8 ((hF8 85 15 (by unfold SScr; omega)).trans h0) (by rw [ep]; exact hp) (by rw [en]; exact hn) hi hr (fun d hd => by rw [hF8 _ _ (by unfold SScr; omega)]; exact hf d hd) ?_
      have hs := fb_ct_succ pb j
      have hle := fb_ct_le pb j
      have hcz : (nI (fb_ct pb j) = 0) ↔ fb_ct pb j = 0 := nI_z (by omega)
      by_cases hso : So (ms A 5 o (nI j)) p f n
      · have hpj : pb j = true := by rw [hpbv]; exact cb_t.mpr hso
        rw [bI_t hso]
        rw [if_pos hpj] at hs
        have fin : ∀ s0 : Int32, s0 = lsT pb 7 → wJ_X9_bents_111 Q (wL_X9_bents_63 Q (m + 1)) M8 (nI o) (nI p) (nI r) (nI i) (nI n) x (nI (fb_ct pb j)) (nI j) 1 s0 := by
          intro s0 e0
          unfold wJ_X9_bents_111
          refine ⟨fun e => absurd e (by decide), fun _ v4 e4 v5 e5 => ?_⟩
          rw [e4, e5, nI_1, nI_1, ← hs]
          exact ih (j + 1) (by omega) M8 _ _ hF8 hV8 hR8 (fun z => by omega) (fun _ => e0)
        refine br1 ⟨fun z => ?_, fun z => ?_⟩
        · unfold wJ_X9_bents_109
          exact fin x9 (h2 (fun e => z (hcz.mpr e)))
        · refine fin _ ?_
          rw [lsT_skip j (by omega) (hcz.mp z), show 7 - j = (6 - j) + 1 by omega]
          show nI j = if pb (6 - (6 - j)) then nI (6 - (6 - j)) else _
          rw [show 6 - (6 - j) = j by omega, if_pos hpj]
      · have hpj : ¬ pb j = true := by rw [hpbv]; exact fun e => hso (cb_t.mp e)
        rw [bI_f hso]
        rw [if_neg hpj] at hs
        have hs : fb_ct pb (j + 1) = fb_ct pb j := by omega
        refine br0 ?_
        unfold wJ_X9_bents_109 wJ_X9_bents_111
        refine ⟨fun _ v2 e2 v3 e3 => ?_, fun e => absurd rfl e⟩
        rw [e2, e3, nI_1, Int32.add_zero, ← hs]
        exact ih (j + 1) (by omega) M8 _ _ hF8 hV8 hR8 (fun z => h1 (by omega)) (fun z => h2 (by omega))
  refine ⟨8, go 7 0 (by omega) M (A 5 o) _ (Fr_rf _ _) (by rw [ms_id]; exact hV) (by rw [ms_id]; exact hA) (fun _ => rfl) (fun e => absurd rfl e)⟩
end BE
theorem span_i {x : Int32} {n z : Nat} (hz : z ≤ 40) (hn : n ≤ 6) (h : span x (nI n) z) : ∃ i, x = nI i ∧ i + n ≤ z := by
  obtain ⟨i, m, e1, e2, h3⟩ := h
  have : n = m := nI_inj (by omega) (by omega) e2
  exact ⟨i, e1, by omega⟩
theorem S_bents (M : Mem) (x1 x2 x3 x4 x5 x6 : Int32) (A : Tn) (hC : RC M 41 A) (hM : RM M 0 A) (hV : V A) (h0 : M 85 15 = 0) (h : IRow M) (hs : IStat M) : w_X8_bents M x1 x2 x3 x4 x5 x6 (fun r M1 => w_X9_bents M1 x1 x2 x3 x4 x5 x6 (fun r2 M2 => PSt M r r2 M2)) := by
  have hd6 := (V_nd hV).2
  unfold w_X8_bents
  refine Sn8 hC hV ?_
  by_cases hsn : SeenP A x1 x2 x3 x5
  · rw [bI_t hsn]
    refine br1 ?_
    rw [W8w2]
    by_cases h6 : isIx x6 2
    · rw [bI_t h6]
      obtain ⟨o, p, r, n, ho, hp, hop, hr, hn1, hn, e1, e2, e3, e5⟩ := Seen_n hV hsn
      have m9 : ∀ (M1 : Mem) (R : Int32 → Mem → Prop), RM M1 0 A → w_X9_noItems M1 x3 x4 x5 (fun r8 M7 => (r8 = 0 → w_X9_copyTown M7 0 3402 (fun M10 => ∃ n12 : Nat, wL_X9_bents_63 R n12 M10 x1 x2 x3 x4 x5 x6 0 (-1000000) 0)) ∧ (¬ r8 = 0 → R r8 M7)) → w_X9_bents M1 x1 x2 x3 x4 x5 x6 R := by
        intro M1 R hM1 hR
        unfold w_X9_bents
        refine Sn9 hM1 hV ?_
        rw [bI_t hsn]
        refine br1 ?_
        rw [W9i1, bI_t h6]
        exact cr1 hR
      subst e1 e2 e3 e5
      refine cr1 ⟨vp_in_nI hr (by decide), ?_⟩
      rw [ix_nat (by omega)]
      rcases h r hr with ⟨hr1, hr2⟩ | ⟨l, z, hl, hz, r1, r2, r3, r4, r5⟩
      · refine W4_find1 hr1 (bn (by decide) ?_)
        rw [W8fi]
        refine m9 _ _ (RM_msS hM hV (by decide)) (N9_no hr (by rw [ms_ne (by decide)]; exact hr2) (bn (by decide) (pst_fnd M 1 _)))
      · refine W4_find (sz := z) (by rw [r1]; exact nI_m1 hl) r3 hz (fun hsp => br0 ?_) (fun hsp => bn (by decide) ?_)
        · obtain ⟨i, ei, hi⟩ := span_i hz (by omega) hsp
          subst ei
          refine W6_become (by decide) (fun M11 b1 b2 => ?_)
          have hF11 : Fr SScr M M11 := fun k j hk => b2 k j (by unfold SScr at hk; omega)
          refine B8 (f := fun d => M (3 + 2 * r + 1) (i + d)) (RC_bec hC hV b1) hV ho hp hr hn (by omega) (fun d hd => hF11 _ _ (by unfold SScr; omega)) (fun M2 hF2 => ?_)
          have hF2 := Fr_tr hF11 hF2
          have hM2 : RM (ms M2 0 11 0) 0 A := RM_msS (RM_scr hM hV hF2) hV (by decide)
          have k89 : ms M2 0 11 0 89 r = nI z := by rw [ms_ne (by decide), hF2 _ _ (by unfold SScr; omega)]; exact r4
          have fin : ∀ R : Int32 → Mem → Prop, (∀ M4, Fr SScr (ms M2 0 11 0) M4 → (x6 = 0 → R (nI (fb_ct (fun b => cb (So (ms A 5 o (nI b)) p (fun d => M (3 + 2 * r + 1) (i + d)) n)) 7)) (ms M4 85 9 0)) ∧ (¬ x6 = 0 → R (lsT (fun b => cb (So (ms A 5 o (nI b)) p (fun d => M (3 + 2 * r + 1) (i + d)) n)) 7) (ms M4 85 9 0))) → w_X9_bents (ms M2 0 11 0) (nI o) (nI p) (nI r) (nI i) (nI n) x6 R := by
            intro R hR
            refine m9 _ _ hM2 (N9_sp hr hz k89 (fun _ => br0 ?_) (fun hc => absurd hsp hc))
            refine W9_copyTown (a := 0) (b := 3402) (by omega) (by omega) (by omega) ?_
            have hFc : Fr SScr (ms M2 0 11 0) (cpT (ms M2 0 11 0) 0 3402 126) := fun k j hk => by
              rw [cpT_app, if_neg (by unfold SScr at hk; omega)]
            have hMc : RM (cpT (ms M2 0 11 0) 0 3402 126) 3402 A := RM_mv hM2 hV (fun k hk => by
              rw [cpT_app, if_pos (by omega)]
              exact congrArg (ms M2 0 11 0 86) (by omega))
            refine B9 (f := fun d => M (3 + 2 * r + 1) (i + d)) hMc hV ?_ ho hp hr hn (by omega) (fun d hd => ?_) (fun M4 hF4 => hR M4 (Fr_tr hFc hF4))
            · rw [hFc _ _ (by unfold SScr; omega), ms_ne (by decide), hF2 _ _ (by unfold SScr; omega)]; exact h0
            · rw [hFc _ _ (by unfold SScr; omega), ms_ne (by decide), hF2 _ _ (by unfold SScr; omega)]
              have := r5 (i + d) (by omega)
              rw [show 40 * r + i + d = 40 * r + (i + d) by omega]
              exact this.symm
          exact ⟨fun y => fin _ (fun M4 hF4 => ⟨fun _ => pst_end _ hF2 hF4, fun w => absurd y w⟩), fun y => fin _ (fun M4 hF4 => ⟨fun w => absurd w y, fun _ => pst_end _ hF2 hF4⟩)⟩
        · rw [W8fi]
          refine m9 _ _ (RM_msS hM hV (by decide)) (N9_sp hr hz (by rw [ms_ne (by decide)]; exact r4) (fun hc => absurd hc hsp) (fun _ => bn (by decide) (pst_fnd M 2 _)))
    · rw [bI_f h6]
      refine cr0 ?_
      unfold w_X9_bents
      refine Sn9 hM hV ?_
      rw [bI_t hsn]
      refine br1 ?_
      rw [W9i1, bI_f h6]
      exact cr0 (pst_same hs _)
  · rw [bI_f hsn]
    refine br0 ?_
    unfold w_X9_bents
    refine Sn9 hM hV ?_
    rw [bI_f hsn]
    exact br0 (pst_same hs _)
