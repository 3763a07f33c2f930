theorem crs_back {A : Tn} {p d : Nat} (hV : V A) (hd : d < nd A) (ha : atD A p d) : crs (passA A p d) p d = A 4 p := by
  obtain ⟨a1, a2, a3, a4, a5⟩ := hV.2.1 d hd
  have hr := (V_nr hV).2
  have e4 : passA A p d 4 p = crs A p d := by unfold passA; rw [ms_ne (by decide), ms_ne (by decide), ms_eq]
  have e1 : passA A p d 1 d = A 1 d := by unfold passA; rw [ms_ne (by decide), ms_ne (by decide), ms_ne (by decide)]
  have e2 : passA A p d 2 d = A 2 d := by unfold passA; rw [ms_ne (by decide), ms_ne (by decide), ms_ne (by decide)]
  have hne : ¬ A 2 d = A 1 d := by
    rw [a1, a2]
    exact fun e => a5 (nI_inj (by omega) (by omega) e).symm
  unfold crs at e4 ⊢
  rw [e4, e1, e2]
  by_cases e : A 4 p = A 1 d
  · rw [if_pos e, if_neg hne, e]
  · rw [if_neg e, if_pos rfl]
    rcases ha with h | h
    · exact absurd h.symm e
    · exact h
theorem pass_back {A : Tn} {p d : Nat} (hV : V A) (hd : d < nd A) (ha : atD A p d) : uA 1 p d (A 9 (6 * p + d)) (A 10 (6 * p + d)) (passA A p d) = A := by
  unfold uA
  rw [if_pos rfl, crs_back hV hd ha]
  funext f i
  unfold passA
  simp only [ms_app]
  by_cases e10 : f = 10 ∧ i = 6 * p + d
  · rw [if_pos e10, e10.1, e10.2]
  · rw [if_neg e10]
    by_cases e9 : f = 9 ∧ i = 6 * p + d
    · rw [if_pos e9, e9.1, e9.2]
    · rw [if_neg e9]
      by_cases e4 : f = 4 ∧ i = p
      · rw [if_pos e4, e4.1, e4.2]
      · rw [if_neg e4, if_neg e10, if_neg e9, if_neg e4]
theorem bal_SC {k j : Nat} (h : SBal k j) : SC k j := by unfold SBal at h; unfold SC; omega
theorem W0_rem {M : Mem} {T nx p d : Nat} {A : Tn} {Q : Mem → Prop} (hA : RC M T A) (hT : kd T = 6) (hV : V A) (hp : p < np A) (hd : d < nd A) (hx : nx < 24) (h5 : M 21 5 = nI ((nx + 1) % 24)) (q : Q (ms (ms M 25 nx (A 9 (6 * p + d))) 26 nx (A 10 (6 * p + d)))) : w_X0_remember T M (nI p) (nI d) Q := by
  have hn := (V_np hV).2
  have hm := (V_nd hV).2
  have e9 : M (T + 9) (6 * p + d) = A 9 (6 * p + d) := hA.2 9 _ (rel_9 hp hd)
  have e10 : M (T + 10) (6 * p + d) = A 10 (6 * p + d) := hA.2 10 _ (rel_10 hp hd)
  have hin : vp_in (nI (6 * p + d)) 36 := vp_in_nI (by omega) (by decide)
  have h24 : vp_in (nI nx) 24 := vp_in_nI hx (by decide)
  have hk := kdT hT
  unfold w_X0_remember
  have ev : nI ((nx + 1) % 24) + 24 - 1 - (nI ((nx + 1) % 24) + 24 - 1) / 24 * 24 = nI nx := by
    rw [show nI ((nx + 1) % 24) + 24 = nI ((nx + 1) % 24 + 24) from nI_add _ 24, show (nx + 1) % 24 + 24 = ((nx + 1) % 24 + 23) + 1 by omega, nI_pred, rem24 _ (by omega), show ((nx + 1) % 24 + 23) % 24 = nx by omega]
  rw [h5, ev]
  intro v1 e1
  rw [e1]
  unfold w_X6_cellOf
  rw [cel]
  show _ ∧ _
  rw [ix_nat (by omega), ix_nat (by omega), e9]
  refine ⟨hin, fun v5 e5 => ⟨h24, fun M7 e7 => ⟨hin, fun v9 e9' => ⟨h24, fun M11 e11 => ?_⟩⟩⟩⟩
  rw [e7, ms_ne (by omega), e10] at e9'
  rw [e11, e9', e7, e5]
  exact q
theorem S_knock (M : Mem) (a b : Int32) (n nx : Nat) (h : Hist M n nx) (h0 : M 85 15 = 0) : w_X8_knock M a b (fun r M1 => w_X9_knock M1 a b (fun r2 M2 => PAct M r r2 M2)) := by
  obtain ⟨hV, hM⟩ := H_cur h
  obtain ⟨g1, g2, g3, g4, g5⟩ := H_n h
  have hn := (V_np hV).2
  have hm := (V_nd hV).2
  unfold w_X8_knock
  refine P8 (RC_cv M 41) hV (fun p hp e => br1 ?_) (fun hne => br0 ?_)
  · subst e
    refine D8 (RC_cv M 41) hV (fun d hd e => cr1 ?_) (fun hne => cr0 ?_)
    · subst e
      generalize hA : cv M 41 = A at hV hM hn hm hp hd
      have hRC : RC M 41 A := by rw [← hA]; exact RC_cv M 41
      -- the reference up to the keeping of the past
      have m9 : ∀ M1 : Mem, (∀ i, M1 86 i = M 86 i) → ∀ R : Int32 → Mem → Prop, (¬ atD A p d → R (-1000002) M1) → (atD A p d → w_X9_keepPast M1 (fun M12 => w_X9_knocks M12 0 (nI p) (nI d) (fun r15 M14 => ((r15 = 0) → (R 0 M14)) ∧ ((¬ r15 = 0) → (R 1 M14))))) → w_X9_knock M1 (nI p) (nI d) R := by
        intro M1 hF R h1 h2
        have hM1 : RM M1 0 A := RM_86 hM hV hF
        unfold w_X9_knock
        refine P9 hM1 hV (fun p2 hp2 e => br1 ?_) (fun h => absurd ⟨p, hp, rfl⟩ h)
        refine D9 hM1 hV (fun p2 hp2 e => cr1 ?_) (fun h => absurd ⟨d, hd, rfl⟩ h)
        rw [show 24 + nI p = nI (24 + p) from lin2 24 p]
        intro v7 e7
        rw [e7, ix_nat (by omega), RM0p hM1 hp (f := 4) (by decide) (by decide)]
        refine ⟨vp_in_nI (by omega) (by decide), W9_bh (B := 0) hM1 (by decide) hV hd ?_⟩
        rw [bh_none hV hd, Classical.not_not]
        exact ⟨h2, h1⟩
      refine W6_atD hRC hV hp hd ?_
      rw [bI0, Classical.not_not]
      refine ⟨fun ha => ?_, fun ha => m9 M (fun _ => rfl) _ (fun _ => pa_same h _) (fun z => absurd z ha)⟩
      refine W8_opens hRC rfl hV hp hd (fun M10 hF10 => ?_)
      have hFC10 : Fr SC M M10 := Fr_mono hF10 (fun _ _ => bal_SC)
      have o5 : M10 21 5 = nI nx := (hF10 21 5 (by unfold SBal; omega)).trans g5
      have o6 : M10 21 6 = nI n := (hF10 21 6 (by unfold SBal; omega)).trans g3
      have cv10 : cv M10 41 = A := by rw [← hA]; exact cv_eq (fun f i hf => hF10 _ _ (by unfold SBal; omega))
      have ring10 : ∀ k j, 21 ≤ k → k ≤ 26 → M10 k j = M k j := fun k j h1 h2 => hF10 k j (by unfold SBal; omega)
      rw [bI0, Classical.not_not]
      refine ⟨fun ho => ?_, fun ho => ?_⟩
      · -- it opens
        refine W0_keep g1 g2 o5 o6 ?_
        have eK := kpC_ring (M := M10) (n := n) (nx := nx) (a := 1) (p := nI p) (d := nI d)
        have ck : cv (kpC M10 n nx 1 (nI p) (nI d)) 41 = A := by rw [← cv10]; exact cv_eq (fun f i hf => kpC_o (by omega) i)
        have hRC2 : RC (kpC M10 n nx 1 (nI p) (nI d)) 41 A := by rw [← ck]; exact RC_cv _ 41
        refine W0_rem hRC2 rfl hV hp hd g2 eK.2.1 ?_
        generalize hM15 : ms (ms (kpC M10 n nx 1 (nI p) (nI d)) 25 nx (A 9 (6 * p + d))) 26 nx (A 10 (6 * p + d)) = M15
        have c15 : cv M15 41 = A := by
          rw [← hM15, cv_eq (M := kpC M10 n nx 1 (nI p) (nI d)) (fun f i hf => by rw [ms_ne (by omega), ms_ne (by omega)])]
          exact ck
        have hRC3 : RC M15 41 A := by rw [← c15]; exact RC_cv _ 41
        refine W6_pass hRC3 hV hp hd ?_
        generalize hM1 : psM M15 41 A p d = M1
        have c1 : cv M1 41 = passA A p d := by
          rw [← hM1, ← c15, cv_ps]
        have hF1 : Fr SC M M1 := by
          rw [← hM1, ← hM15]
          unfold psM
          refine Fr_ms (Fr_ms (Fr_ms (Fr_ms (Fr_ms (Fr_tr hFC10 kpC_fr) _ ?_) _ ?_) _ ?_) _ ?_) _ ?_
          all_goals (unfold SC; omega)
        have o1 : ∀ k j, 21 ≤ k → k ≤ 24 → M1 k j = kpC M10 n nx 1 (nI p) (nI d) k j := by
          intro k j h1 h2
          rw [← hM1, ← hM15]
          unfold psM
          rw [ms_ne (by omega), ms_ne (by omega), ms_ne (by omega), ms_ne (by omega), ms_ne (by omega)]
        have o25 : ∀ q, M1 25 q = if q = nx then A 9 (6 * p + d) else M 25 q := by
          intro q
          rw [← hM1, ← hM15]
          unfold psM
          rw [ms_ne (by omega), ms_ne (by omega), ms_ne (by omega), ms_ne (by omega), ms_app]
          by_cases e : q = nx
          · rw [if_pos ⟨rfl, e⟩, if_pos e]
          · rw [if_neg (fun z => e z.2), if_neg e, kpC_o (by omega), ring10 25 q (by decide) (by decide)]
        have o26 : ∀ q, M1 26 q = if q = nx then A 10 (6 * p + d) else M 26 q := by
          intro q
          rw [← hM1, ← hM15]
          unfold psM
          rw [ms_ne (by omega), ms_ne (by omega), ms_ne (by omega), ms_app]
          by_cases e : q = nx
          · rw [if_pos ⟨rfl, e⟩, if_pos e]
          · rw [if_neg (fun z => e z.2), if_neg e, ms_ne (by decide), kpC_o (by omega), ring10 26 q (by decide) (by decide)]
        have o86 : ∀ i, M1 86 i = M 86 i := fun i => hF1 86 i (by unfold SC; omega)
        have o851 : M1 85 1 = nI n := (hF1 85 1 (by unfold SC; omega)).trans g4
        refine m9 M1 o86 _ (fun z => absurd ha z) (fun _ => W9_keepPast g1 o851 (fun M2 hK => ?_))
        have hMk : RM M2 0 A := RM_fr (RM_86 hM hV o86) hV (fun i hi => by rw [Nat.zero_add]; exact hK.2.2.1 i hi)
        have h02 : M2 85 15 = 0 := by rw [hK.2.1 85 15 (by omega) (by decide)]; exact (hF1 85 15 (by unfold SC; omega)).trans h0
        refine W9_knocks (B := 0) hMk (by decide) hV h02 hp hd ha (fun _ => br1 ?_) (fun z => absurd ho z)
        have hh := Hist_both (M1 := M1) (M2 := M2) (M3 := ps9 M2 0 A p d) h hF1 ?_ ?_ ?_ hK ?_ ?_ ?_ ?_ ?_ (by rw [c1]; unfold na; rw [pass_sc, ← hA]; exact H_day h)
        · exact ⟨rfl, ⟨_, _, hh.1⟩, hh.2⟩
        · intro q hq hne
          rw [o1 22 q (by decide) (by decide), o1 23 q (by decide) (by decide), o1 24 q (by decide) (by decide), o25, o26, if_neg hne, if_neg hne]
          obtain ⟨k1, k2, k3, -⟩ := eK.1 q hq hne
          exact ⟨k1.trans (ring10 _ _ (by decide) (by decide)), k2.trans (ring10 _ _ (by decide) (by decide)), k3.trans (ring10 _ _ (by decide) (by decide)), rfl, rfl⟩
        · rw [o1 21 5 (by decide) (by decide)]; exact eK.2.1
        · rw [o1 21 6 (by decide) (by decide)]; exact eK.2.2.1
        · intro k j hkj
          unfold ps9
          have m4 : mo 4 p = 24 + p := rfl
          have m9 : mo 9 (6 * p + d) = 54 + (6 * p + d) := rfl
          have m10 : mo 10 (6 * p + d) = 90 + (6 * p + d) := rfl
          rw [ms_app, if_neg (by omega), ms_app, if_neg (by omega), ms_app, if_neg (by omega)]
        · rw [c1]; exact V_pass hV hp hd
        · rw [c1]; exact RM_ps hMk hV hp hd
        · unfold EOkR EOk
          rw [c1, (pass_n A p d).1, (pass_n A p d).2.1, o1 22 nx (by decide) (by decide), o1 23 nx (by decide) (by decide), o1 24 nx (by decide) (by decide), eK.2.2.2.1, eK.2.2.2.2.1, eK.2.2.2.2.2, ix_nat (by omega), ix_nat (by omega)]
          exact ⟨⟨fun _ => ⟨hp, hd⟩, fun e => by rcases e with e | e <;> exact absurd e (by decide), fun e => absurd e (by decide)⟩, fun _ => ⟨⟨p, by omega, rfl⟩, ⟨d, by omega, rfl⟩⟩, fun e => by rcases e with e | e <;> exact absurd e (by decide)⟩
        · unfold uR
          rw [c1, o1 22 nx (by decide) (by decide), o1 23 nx (by decide) (by decide), o1 24 nx (by decide) (by decide), eK.2.2.2.1, eK.2.2.2.2.1, eK.2.2.2.2.2, ix_nat (by omega), ix_nat (by omega), o25, o26, if_pos rfl, if_pos rfl, pass_back hV hd ha, hA]
          exact Alk_rf _
      · -- it stays shut
        refine W0_keep g1 g2 o5 o6 ?_
        have eK := kpC_ring (M := M10) (n := n) (nx := nx) (a := 0) (p := nI p) (d := nI d)
        generalize hM1 : kpC M10 n nx 0 (nI p) (nI d) = M1
        rw [hM1] at eK
        have c1 : cv M1 41 = A := by rw [← hM1, ← cv10]; exact cv_eq (fun f i hf => kpC_o (by omega) i)
        have hF1 : Fr SC M M1 := by rw [← hM1]; exact Fr_tr hFC10 kpC_fr
        have o86 : ∀ i, M1 86 i = M 86 i := fun i => hF1 86 i (by unfold SC; omega)
        have o851 : M1 85 1 = nI n := (hF1 85 1 (by unfold SC; omega)).trans g4
        refine m9 M1 o86 _ (fun z => absurd ha z) (fun _ => W9_keepPast g1 o851 (fun M2 hK => ?_))
        have hMk : RM M2 0 A := RM_fr (RM_86 hM hV o86) hV (fun i hi => by rw [Nat.zero_add]; exact hK.2.2.1 i hi)
        have h02 : M2 85 15 = 0 := by rw [hK.2.1 85 15 (by omega) (by decide)]; exact (hF1 85 15 (by unfold SC; omega)).trans h0
        refine W9_knocks (B := 0) hMk (by decide) hV h02 hp hd ha (fun z => absurd z ho) (fun _ => br0 ?_)
        have hh := Hist_both (M1 := M1) (M2 := M2) (M3 := M2) h hF1 ?_ eK.2.1 eK.2.2.1 hK (fun _ _ _ => rfl) ?_ ?_ ?_ ?_ (by rw [c1, ← hA]; exact H_day h)
        · exact ⟨rfl, ⟨_, _, hh.1⟩, hh.2⟩
        · intro q hq hne
          obtain ⟨k1, k2, k3, k4, k5⟩ := eK.1 q hq hne
          exact ⟨k1.trans (ring10 _ _ (by decide) (by decide)), k2.trans (ring10 _ _ (by decide) (by decide)), k3.trans (ring10 _ _ (by decide) (by decide)), k4.trans (ring10 _ _ (by decide) (by decide)), k5.trans (ring10 _ _ (by decide) (by decide))⟩
        · rw [c1]; exact hV
        · rw [c1]; exact hMk
        · unfold EOkR EOk
          rw [eK.2.2.2.1]
          exact ⟨⟨fun e => absurd e (by decide), fun e => by rcases e with e | e <;> exact absurd e (by decide), fun e => absurd e (by decide)⟩, fun e => absurd e (by decide), fun e => by rcases e with e | e <;> exact absurd e (by decide)⟩
        · unfold uR uA
          rw [eK.2.2.2.1, if_neg (by decide), if_neg (by decide), if_neg (by decide), if_neg (by decide), if_neg (by decide), c1, hA]
          exact Alk_rf _
    · unfold w_X9_knock
      refine P9 hM hV (fun p2 hp2 e => br1 ?_) (fun h => absurd ⟨p, hp, rfl⟩ h)
      exact D9 hM hV (fun p hp e => absurd ⟨p, hp, e⟩ hne) (fun _ => cr0 (pa_same h _))
  · unfold w_X9_knock
    exact P9 hM hV (fun p hp e => absurd ⟨p, hp, e⟩ hne) (fun _ => br0 (pa_same h _))
