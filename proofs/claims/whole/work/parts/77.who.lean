noncomputable def whp (A : Tn) (o p : Nat) (f : Nat → Int32) (n k : Nat) : Bool := decide (1 ≤ k) && cb (So (ms A 3 o (nI k)) p f n)
theorem whp_t {A : Tn} {o p n k : Nat} {f : Nat → Int32} (hk : 1 ≤ k) : whp A o p f n k = true ↔ So (ms A 3 o (nI k)) p f n := by
  unfold whp
  rw [decide_eq_true hk, Bool.true_and, cb_t]
theorem whp_1 (A : Tn) (o p n : Nat) (f : Nat → Int32) : msk (whp A o p f n) 1 = 0 := by
  have h : whp A o p f n 0 = false := by
    unfold whp
    rw [decide_eq_false (by omega), Bool.false_and]
  rw [msk_s, h]
  simp [msk]
section WH
variable {M : Mem} {A : Tn} {o p r i n : Nat} {f : Nat → Int32}
theorem Wh8 {Q : Int32 → Mem → Prop} (hA : RC M 52 A) (hV : V A) (ho : o < np A) (hp : p < np A) (hr : r < 8) (hn : n ≤ nd A) (hi : i + n ≤ 40) (hf : ∀ d, d < n → M (3 + 2 * r + 1) (i + d) = f d) (q : ∀ M2, Fr SScr M M2 → Q (nI (msk (whp A o p f n) 6)) (ms M2 0 11 0)) : ∃ n10 : Nat, wL_X8_who_59 Q n10 M (nI o) (nI p) (nI r) (nI i) (nI n) 0 1 := by
  have hn6 := (V_np hV).2
  have hd6 := (V_nd hV).2
  have go : ∀ m j, j + m = 6 → 1 ≤ j → ∀ (M1 : Mem) (v : Int32), Fr SScr M M1 → RC M1 52 (ms A 3 o v) → wL_X8_who_59 Q (m + 1) M1 (nI o) (nI p) (nI r) (nI i) (nI n) (nI (msk (whp A o p f n) j)) (nI j) := by
    intro m
    induction m with
    | zero =>
      intro j hj hj1 M1 v hF hR
      have hj : j = 6 := by omega
      subst hj
      refine ⟨fun _ => ?_, fun e => absurd (by decide) e⟩
      rw [W8un]
      exact q M1 hF
    | succ m ih =>
      intro j hj hj1 M1 v hF hR
      refine ⟨fun e => absurd e (nI_ge (a := j) (b := 6) (by omega) (by decide)), fun _ => ⟨vp_in_nI (by omega) (by decide), fun M8 e8 => ⟨vp_in_nI hr (by decide), ?_⟩⟩⟩
      rw [ix_nat (by omega)] at e8
      have hR8 : RC M8 52 (ms A 3 o (nI j)) := by
        have := RC_ms (f := 3) (i := o) (v := nI j) hR (by decide)
        rw [ms_ms] at this
        rw [e8]; exact this
      have hF8 : Fr SScr M M8 := by rw [e8]; exact Fr_ms hF _ (by unfold SScr; omega)
      obtain ⟨-, en, ep⟩ := ms_n (A := A) (f := 3) (i := o) (v := nI j) (by decide)
      rw [ix_nat (by omega)]
      refine W8_isSo (f := f) hR8 (V_kind hV hj1 (by omega)) (by rw [ep]; exact hp) (by rw [en]; exact hn) hi (by omega) (fun d hd => by rw [hF8 _ _ (by unfold SScr; omega)]; exact hf d hd) (fun M10 hF10 => ?_)
      have hF10' := Fr_tr hF8 (Fr_mono hF10 (fun k j h => bal_scr h))
      have hR10 := RC_bal hR8 (by decide) hF10
      have hh := ih (j + 1) (by omega) (by omega) M10 _ hF10' hR10
      rw [msk_s] at hh
      by_cases hso : So (ms A 3 o (nI j)) p f n
      · rw [bI_t hso]
        rw [if_pos ((whp_t hj1).mpr hso)] at hh
        refine br1 (fun v11 e11 v12 e12 => ?_)
        rw [e11, e12, nI_1, or_pow (by omega)]
        exact hh
      · rw [bI_f hso]
        rw [if_neg (fun e => hso ((whp_t hj1).mp e)), Nat.or_zero] at hh
        refine br0 (fun v10 e10 => ?_)
        rw [e10, nI_1]
        exact hh
  have h := go 5 1 (by omega) (by omega) M (A 3 o) (Fr_rf _ _) (by rw [ms_id]; exact hA)
  rw [whp_1] at h
  exact ⟨6, h⟩
theorem Wh9 {Q : Int32 → Mem → Prop} (hA : RM M 3402 A) (hV : V A) (h0 : M 85 15 = 0) (ho : o < np A) (hp : p < np A) (hr : r < 8) (hn : n ≤ nd A) (hi : i + n ≤ 40) (hf : ∀ d, d < n → M 90 (40 * r + i + d) = f d) (q : ∀ M2, Fr SScr M M2 → Q (nI (msk (whp A o p f n) 6)) (ms M2 85 9 0)) : ∃ n9 : Nat, wL_X9_who_48 Q n9 M (nI o) (nI p) (nI r) (nI i) (nI n) 0 1 := by
  have hn6 := (V_np hV).2
  have hd6 := (V_nd hV).2
  have go : ∀ m j, j + m = 6 → 1 ≤ j → ∀ (M1 : Mem) (v : Int32), Fr SScr M M1 → V (ms A 3 o v) → RM M1 3402 (ms A 3 o v) → wL_X9_who_48 Q (m + 1) M1 (nI o) (nI p) (nI r) (nI i) (nI n) (nI (msk (whp A o p f n) j)) (nI j) := by
    intro m
    induction m with
    | zero =>
      intro j hj hj1 M1 v hF hV1 hR
      have hj : j = 6 := by omega
      subst hj
      refine ⟨fun _ => ?_, fun e => absurd (by decide) e⟩
      rw [W9we]
      exact q M1 hF
    | succ m ih =>
      intro j hj hj1 M1 v hF hV1 hR
      refine ⟨fun e => absurd e (nI_ge (a := j) (b := 6) (by omega) (by decide)), fun _ => ?_⟩
      rw [show 3420 + nI o = nI (3420 + o) from lin2 3420 o]
      refine ⟨vp_in_nI (by omega) (by decide), fun M8 e8 => ?_⟩
      rw [ix_nat (by omega)] at e8
      have hV8 : V (ms A 3 o (nI j)) := V_kind hV hj1 (by omega)
      have hR8 : RM M8 3402 (ms A 3 o (nI j)) := by rw [e8]; exact RM_ms2 (f := 3) hR hV1 (by decide) (by decide) ho
      have hF8 : Fr SScr M M8 := by rw [e8]; exact Fr_ms hF _ (by unfold SScr; omega)
      obtain ⟨-, en, ep⟩ := ms_n (A := A) (f := 3) (i := o) (v := nI j) (by decide)
      refine W9_isSo (f := f) hR8 hV8 ((hF8 85 15 (by unfold SScr; omega)).trans h0) (by rw [ep]; exact hp) (by rw [en]; exact hn) hi hr (fun d hd => by rw [hF8 _ _ (by unfold SScr; omega)]; exact hf d hd) ?_
      have hh := ih (j + 1) (by omega) (by omega) M8 _ hF8 hV8 hR8
      rw [msk_s] at hh
      by_cases hso : So (ms A 3 o (nI j)) p f n
      · rw [bI_t hso]
        rw [if_pos ((whp_t hj1).mpr hso)] at hh
        refine br1 (fun v11 e11 v12 e12 => ?_)
        rw [e11, e12, nI_1, or_pow (by omega)]
        exact hh
      · rw [bI_f hso]
        rw [if_neg (fun e => hso ((whp_t hj1).mp e)), Nat.or_zero] at hh
        refine br0 (fun v10 e10 v11 e11 => ?_)
        rw [e10, e11, nI_1, Int32.or_zero]
        exact hh
  have h := go 5 1 (by omega) (by omega) M (A 3 o) (Fr_rf _ _) (by rw [ms_id]; exact hV) (by rw [ms_id]; exact hA)
  rw [whp_1] at h
  exact ⟨6, h⟩
end WH
theorem S_who (M : Mem) (x1 x2 x3 x4 x5 : Int32) (A : Tn) (hC : RC M 41 A) (hM : RM M 0 A) (hV : V A) (h0 : M 85 15 = 0) (h : IRow M) (hs : IStat M) : w_X8_who M x1 x2 x3 x4 x5 (fun r M1 => w_X9_who M1 x1 x2 x3 x4 x5 (fun r2 M2 => PSt M r r2 M2)) := by
  have hd6 := (V_nd hV).2
  unfold w_X8_who
  refine Sn8 hC hV ?_
  by_cases hsn : SeenP A x1 x2 x3 x5
  · rw [bI_t hsn]
    obtain ⟨o, p, r, n, ho, hp, hop, hr, hn1, hn, e1, e2, e3, e5⟩ := Seen_n hV hsn
    have m9 : ∀ (M1 : Mem) (R : Int32 → Mem → Prop), RM M1 0 A → w_X9_noItems M1 x3 x4 x5 (fun r8 M7 => (r8 = 0 → w_X9_copyTown M7 0 3402 (fun M10 => ∃ n12 : Nat, wL_X9_who_48 R n12 M10 x1 x2 x3 x4 x5 0 1)) ∧ (¬ r8 = 0 → R r8 M7)) → w_X9_who M1 x1 x2 x3 x4 x5 R := by
      intro M1 R hM1 hR
      unfold w_X9_who
      refine Sn9 hM1 hV ?_
      rw [bI_t hsn]
      exact cr1 hR
    subst e1 e2 e3 e5
    refine cr1 ⟨vp_in_nI hr (by decide), ?_⟩
    rw [ix_nat (by omega)]
    rcases h r hr with ⟨hr1, hr2⟩ | ⟨l, z, hl, hz, r1, r2, r3, r4, r5⟩
    · refine W4_find1 hr1 (bn (by decide) ?_)
      rw [W8fi]
      refine m9 _ _ (RM_msS hM hV (by decide)) (N9_no hr (by rw [ms_ne (by decide)]; exact hr2) (bn (by decide) (pst_fnd M 1 _)))
    · refine W4_find (sz := z) (by rw [r1]; exact nI_m1 hl) r3 hz (fun hsp => br0 ?_) (fun hsp => bn (by decide) ?_)
      · obtain ⟨i, ei, hi⟩ := span_i hz (by omega) hsp
        subst ei
        refine W6_become (by decide) (fun M11 b1 b2 => ?_)
        have hF11 : Fr SScr M M11 := fun k j hk => b2 k j (by unfold SScr at hk; omega)
        refine Wh8 (f := fun d => M (3 + 2 * r + 1) (i + d)) (RC_bec hC hV b1) hV ho hp hr hn (by omega) (fun d hd => hF11 _ _ (by unfold SScr; omega)) (fun M2 hF2 => ?_)
        have hF2 := Fr_tr hF11 hF2
        have hM2 : RM (ms M2 0 11 0) 0 A := RM_msS (RM_scr hM hV hF2) hV (by decide)
        have k89 : ms M2 0 11 0 89 r = nI z := by rw [ms_ne (by decide), hF2 _ _ (by unfold SScr; omega)]; exact r4
        refine m9 _ _ hM2 (N9_sp hr hz k89 (fun _ => br0 ?_) (fun hc => absurd hsp hc))
        refine W9_copyTown (a := 0) (b := 3402) (by omega) (by omega) (by omega) ?_
        have hFc : Fr SScr (ms M2 0 11 0) (cpT (ms M2 0 11 0) 0 3402 126) := fun k j hk => by
          rw [cpT_app, if_neg (by unfold SScr at hk; omega)]
        have hMc : RM (cpT (ms M2 0 11 0) 0 3402 126) 3402 A := RM_mv hM2 hV (fun k hk => by
          rw [cpT_app, if_pos (by omega)]
          exact congrArg (ms M2 0 11 0 86) (by omega))
        refine Wh9 (f := fun d => M (3 + 2 * r + 1) (i + d)) hMc hV ?_ ho hp hr hn (by omega) (fun d hd => ?_) (fun M4 hF4 => pst_end _ hF2 (Fr_tr hFc hF4))
        · rw [hFc _ _ (by unfold SScr; omega), ms_ne (by decide), hF2 _ _ (by unfold SScr; omega)]; exact h0
        · rw [hFc _ _ (by unfold SScr; omega), ms_ne (by decide), hF2 _ _ (by unfold SScr; omega)]
          have := r5 (i + d) (by omega)
          rw [show 40 * r + i + d = 40 * r + (i + d) by omega]
          exact this.symm
      · rw [W8fi]
        refine m9 _ _ (RM_msS hM hV (by decide)) (N9_sp hr hz (by rw [ms_ne (by decide)]; exact r4) (fun hc => absurd hc hsp) (fun _ => bn (by decide) (pst_fnd M 2 _)))
  · rw [bI_f hsn]
    refine cr0 ?_
    unfold w_X9_who
    refine Sn9 hM hV ?_
    rw [bI_f hsn]
    exact cr0 (pst_same hs _)
