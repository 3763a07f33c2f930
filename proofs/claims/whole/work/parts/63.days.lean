/-- the class's cells of C, the reference's of D -/
def mix (C D : Mem) : Mem := fun k j => if k < 85 then C k j else D k j
theorem mix_c (C D : Mem) {k : Nat} (h : k < 85) (j : Nat) : mix C D k j = C k j := if_pos h
theorem mix_d (C D : Mem) {k : Nat} (h : 85 ≤ k) (j : Nat) : mix C D k j = D k j := if_neg (by omega)
theorem mix_self {C D : Mem} (h : ∀ k j, k < 85 → D k j = C k j) : mix C D = D := by
  funext k j
  unfold mix
  by_cases e : k < 85
  · rw [if_pos e, h k j e]
  · rw [if_neg e]
theorem mix_cv (C D : Mem) : cv (mix C D) 41 = cv C 41 := cv_eq (fun f i hf => mix_c C D (by omega) i)
theorem KP_mix {C D X : Mem} {n : Nat} (h : KP D X n) : KP (mix C D) (mix C X) n := by
  obtain ⟨k1, k2, k3, k4, k5, k6⟩ := h
  refine ⟨?_, fun k j h1 h2 => ?_, fun i hi => ?_, fun i hi => ?_, fun j h1 h2 i hi => ?_, fun x hx => ?_⟩
  · rw [mix_d _ _ (by decide)]; exact k1
  · by_cases e : k < 85
    · rw [mix_c _ _ e, mix_c _ _ e]
    · rw [mix_d _ _ (by omega), mix_d _ _ (by omega)]; exact k2 k j h1 h2
  · rw [mix_d _ _ (by decide), mix_d _ _ (by decide)]; exact k3 i hi
  · rw [mix_d _ _ (by decide), mix_d _ _ (by decide)]; exact k4 i hi
  · rw [mix_d _ _ (by decide), mix_d _ _ (by decide)]; exact k5 j h1 h2 i hi
  · rw [mix_d _ _ (by decide), mix_d _ _ (by decide)]; exact k6 x hx
theorem V_day {A : Tn} {t : Nat} (h : V A) (ht : t ≤ 2000) : V (ms A 0 5 (nI t)) := by
  obtain ⟨⟨a1, a2, a3, a4, a5, a6, a7, a8, a9, a10, a11, a12, a13⟩, hd, hp, h9⟩ := h
  have e : ∀ f i, ¬ (f = 0 ∧ i = 5) → ms A 0 5 (nI t) f i = A f i := fun f i hf => by rw [ms_app, if_neg hf]
  have en : ∀ f i, ¬ (f = 0 ∧ i = 5) → na (ms A 0 5 (nI t)) f i = na A f i := fun f i hf => by unfold na; rw [e f i hf]
  have n0 : nr (ms A 0 5 (nI t)) = nr A := en 0 0 (by decide)
  have n1 : nd (ms A 0 5 (nI t)) = nd A := en 0 2 (by decide)
  have n2 : np (ms A 0 5 (nI t)) = np A := en 0 3 (by decide)
  have n5 : na (ms A 0 5 (nI t)) 0 5 = t := by unfold na; rw [ms_eq, ix_nat (by omega)]
  unfold V
  rw [n0, n1, n2, n5, en 0 1 (by decide), en 0 4 (by decide), e 0 0 (by decide), e 0 1 (by decide), e 0 2 (by decide), e 0 3 (by decide), e 0 4 (by decide), ms_eq]
  refine ⟨⟨a1, a2, a3, a4, a5, a6, a7, a8, a9, a10, rfl, ht, a13⟩, fun d hd2 => ?_, fun q hq => ?_, fun q d hq hd2 => ?_⟩
  · rw [en 1 d (by omega), en 2 d (by omega), e 1 d (by omega), e 2 d (by omega)]
    exact hd d hd2
  · rw [en 3 q (by omega), en 4 q (by omega), en 5 q (by omega), en 7 q (by omega), en 8 q (by omega), e 3 q (by omega), e 4 q (by omega), e 5 q (by omega), e 6 q (by omega), e 7 q (by omega), e 8 q (by omega)]
    exact hp q hq
  · rw [en 9 _ (by omega), e 9 _ (by omega)]
    exact h9 q d hq hd2
def nadd (n t : Nat) : Nat := if n + t < 24 then n + t else 24
theorem nadd_s {n t : Nat} (h : n ≤ 24) : nmin (nadd n t) = nadd n (t + 1) := by
  unfold nmin nadd
  repeat (first | omega | split)
/-- the class behind t days -/
def dcs (M : Mem) (n nx dy : Nat) : Nat → Mem
  | 0 => M
  | t + 1 => ms (kpC (dcs M n nx dy t) (nadd n t) ((nx + t) % 24) 2 0 0) 41 5 (nI (dy + t + 1))
theorem dcs_5 {M : Mem} {n nx dy : Nat} (hn : n ≤ 24) (hx : nx < 24) (h5 : M 21 5 = nI nx) (h6 : M 21 6 = nI n) (hd : M 41 5 = nI dy) : ∀ t, dcs M n nx dy t 21 5 = nI ((nx + t) % 24) ∧ dcs M n nx dy t 21 6 = nI (nadd n t) ∧ dcs M n nx dy t 41 5 = nI (dy + t)
  | 0 => by
    refine ⟨?_, ?_, hd⟩
    · rw [show (nx + 0) % 24 = nx by omega]; exact h5
    · rw [show nadd n 0 = n by unfold nadd; split <;> omega]; exact h6
  | t + 1 => by
    have k := kpC_ring (M := dcs M n nx dy t) (n := nadd n t) (nx := (nx + t) % 24) (a := 2) (p := 0) (d := 0)
    refine ⟨?_, ?_, ?_⟩
    · show ms _ 41 5 _ 21 5 = _
      rw [ms_ne (by decide), k.2.1, show ((nx + t) % 24 + 1) % 24 = (nx + (t + 1)) % 24 by omega]
    · show ms _ 41 5 _ 21 6 = _
      rw [ms_ne (by decide), k.2.2.1, nadd_s hn]
    · show ms _ 41 5 _ 41 5 = _
      rw [ms_eq]; rfl
theorem dcs_fr (M : Mem) (n nx dy : Nat) : ∀ t, Fr SC M (dcs M n nx dy t)
  | 0 => Fr_rf _ _
  | t + 1 => Fr_ms (Fr_tr (dcs_fr M n nx dy t) kpC_fr) _ (by unfold SC; omega)
theorem S_days (M : Mem) (a : Int32) (n nx : Nat) (h : Hist M n nx) : w_X8_days M a (fun r M1 => w_X9_days M1 a (fun r2 M2 => PAct M r r2 M2)) := by
  obtain ⟨hV, hM⟩ := H_cur h
  obtain ⟨g1, g2, g3, g4, g5⟩ := H_n h
  have hn := (V_np hV).2
  have hm := (V_nd hV).2
  have e3 : M 41 3 = nI (np (cv M 41)) := (V_np hV).1
  have e2 : M 41 2 = nI (nd (cv M 41)) := (V_nd hV).1
  have e5 : M 41 5 = nI (na (cv M 41) 0 5) := hV.1.2.2.2.2.2.2.2.2.2.2.1
  have l5 : na (cv M 41) 0 5 ≤ 2000 := hV.1.2.2.2.2.2.2.2.2.2.2.2.1
  have m3 : M 86 3 = nI (np (cv M 41)) := (RM0 hM (j := 3) (by decide)).trans (V_np hV).1
  have m5 : M 86 4 = nI (na (cv M 41) 0 5) := (RM0 hM (j := 5) (by decide)).trans e5
  have iff := hV.1.2.2.2.2.2.2.2.2.2.2.2.2
  generalize hdy : na (cv M 41) 0 5 = dy at e5 l5 m5
  -- the reference, by what holds
  have st : np (cv M 41) = 0 → w_X9_days M a (fun r2 M2 => PAct M (-1000002) r2 M2) := by
    intro z
    refine ⟨fun y => absurd ?_ y, fun _ => pa_same h _⟩
    rw [m3, z]; rfl
  unfold w_X8_days w_X8_isTown
  rw [e3, e2, nI_le0 (by omega), nI_le0 (by omega)]
  refine ⟨fun z => cr0 (st z), fun z => ⟨fun z2 => cr0 (st (by omega)), fun z2 => cr1 ?_⟩⟩
  have m3n : ¬ M 86 3 = 0 := by rw [m3, nI_z (by omega)]; exact z
  have bad : ¬ (1 ≤ a ∧ a ≤ 24) → w_X9_days M a (fun r2 M2 => PAct M (-1000001) r2 M2) := by
    intro hb
    refine ⟨fun _ => ?_, fun y => absurd y m3n⟩
    rw [show (1 : Int64) = (1 : Int32).toInt64 from by decide, show (24 : Int64) = (24 : Int32).toInt64 from by decide, W9_inI, bI_f hb]
    exact cr0 (pa_same h _)
  refine ⟨fun y => bad (fun e => absurd y (Int32.not_lt.mpr e.1)), fun y => ⟨fun y2 => ?_, fun y2 => bad (fun e => y2 e.2)⟩⟩
  have ha : 1 ≤ a ∧ a ≤ 24 := ⟨Int32.not_lt.mp y, y2⟩
  obtain ⟨N, hN0, rfl⟩ := nI_of (x := a) (by
    have := (fa_le _ _).mp ha.1
    rw [fa_lt, show (0 : Int32).toInt = 0 from rfl]
    rw [show (1 : Int32).toInt = 1 from rfl] at this
    omega)
  have hN : 1 ≤ N ∧ N ≤ 24 := ⟨(nI_leI (a := 1) (by decide) hN0).mp ha.1, (nI_leI (b := 24) hN0 (by decide)).mp ha.2⟩
  rw [e5, nI_add]
  have m9 : ∀ D : Mem, D 86 3 = M 86 3 → ∀ R : Int32 → Mem → Prop, ((D 86 4 + nI N ≤ 999 → ∃ n6 : Nat, wL_X9_days_46 R n6 D (nI N) 0) ∧ (¬ D 86 4 + nI N ≤ 999 → R (-1000003) D)) → w_X9_days D (nI N) R := by
    intro D hD R hR
    refine ⟨fun _ => ?_, fun y => absurd (hD ▸ y) m3n⟩
    rw [show (1 : Int64) = (1 : Int32).toInt64 from by decide, show (24 : Int64) = (24 : Int32).toInt64 from by decide, W9_inI, bI_t ha]
    exact cr1 hR
  refine ⟨fun w => ?_, fun w => ?_⟩
  · have hw : dy + N ≤ 999 := (nI_leI (b := 999) (by omega) (by decide)).mp w
    -- the class
    have fin : w_X9_days (dcs M n nx dy N) (nI N) (fun r2 M2 => PAct M (nI (dy + N)) r2 M2) := by
      have hF := dcs_fr M n nx dy N
      refine m9 _ (hF 86 3 (by unfold SC; omega)) _ ⟨fun _ => ⟨N + 1, ?_⟩, fun y => absurd ?_ y⟩
      · have go : ∀ m t : Nat, t + m = N → ∀ D : Mem, Hist (mix (dcs M n nx dy t) D) (nadd n t) ((nx + t) % 24) → (∀ k j, k < 85 → D k j = dcs M n nx dy N k j) → D 86 4 = nI (dy + t) → Fr SAct M (mix (dcs M n nx dy t) D) → wL_X9_days_46 (fun r2 M2 => PAct M (nI (dy + N)) r2 M2) (m + 1) D (nI N) (nI t) := by
          intro m
          induction m with
          | zero =>
            intro t ht D hH hc h4 hfr
            have ht : t = N := by omega
            subst ht
            rw [mix_self hc] at hH hfr
            exact ⟨fun _ => ⟨h4.symm, ⟨_, _, hH⟩, hfr⟩, fun e => absurd (nI_le (Nat.le_refl _) (by omega)) e⟩
          | succ m ih =>
            intro t ht D hH hc h4 hfr
            refine ⟨fun e => absurd e (nI_ge (by omega) (by omega)), fun _ => ?_⟩
            have hH0 := hH
            obtain ⟨b1, b2, b3, b4, b5⟩ := H_n hH
            obtain ⟨hVt, hMt⟩ := H_cur hH
            rw [mix_d _ _ (by decide)] at b4
            refine W9_keepPast b1 b4 (fun X hK => ?_)
            have x4 : X 86 4 = nI (dy + t) := (hK.2.2.1 4 (by decide)).trans h4
            rw [x4, nI_1]
            intro v4 ev4 M5 e5' v6 e6
            rw [e6, nI_1]
            have eC : cv (dcs M n nx dy (t + 1)) 41 = ms (cv (dcs M n nx dy t) 41) 0 5 (nI (dy + t + 1)) := by
              show cv (ms _ (41 + 0) 5 _) 41 = _
              rw [cv_ms _ _ _ _ _ (by decide), cv_eq (M := dcs M n nx dy t) (fun f i hf => kpC_o (by omega) i)]
            rw [mix_cv] at hVt hMt
            have hV1 : V (cv (dcs M n nx dy (t + 1)) 41) := by rw [eC]; exact V_day hVt (by omega)
            have eK := kpC_ring (M := dcs M n nx dy t) (n := nadd n t) (nx := (nx + t) % 24) (a := 2) (p := 0) (d := 0)
            have r22 : dcs M n nx dy (t + 1) 22 ((nx + t) % 24) = 2 := by
              show ms _ 41 5 _ 22 _ = _
              rw [ms_ne (by decide)]; exact eK.2.2.2.1
            have hh := Hist_both (M := mix (dcs M n nx dy t) D) (M1 := mix (dcs M n nx dy (t + 1)) D) (M2 := mix (dcs M n nx dy (t + 1)) X) (M3 := mix (dcs M n nx dy (t + 1)) M5) hH0 ?_ ?_ ?_ ?_ (KP_mix hK) ?_ ?_ ?_ ?_ ?_ (by rw [mix_cv, eC]; unfold na; rw [ms_eq, ix_nat (by omega)]; omega)
            · rw [nadd_s g1, show ((nx + t) % 24 + 1) % 24 = (nx + (t + 1)) % 24 by omega] at hh
              refine ih (t + 1) (by omega) M5 hh.1 (fun k j hk => ?_) ?_ (Fr_tr hfr hh.2)
              · rw [e5', ms_ne (by omega), hK.2.1 k j (by omega) (by omega)]; exact hc k j hk
              · rw [e5', ms_eq, ev4]; rfl
            · intro k j hs
              by_cases e : k < 85
              · rw [mix_c _ _ e, mix_c _ _ e]
                exact Fr_ms (Fr_tr (Fr_rf _ _) kpC_fr) _ (by unfold SC; omega) k j hs
              · rw [mix_d _ _ (by omega), mix_d _ _ (by omega)]
            · intro q hq hne
              rw [mix_c _ _ (by decide), mix_c _ _ (by decide), mix_c _ _ (by decide), mix_c _ _ (by decide), mix_c _ _ (by decide), mix_c _ _ (by decide), mix_c _ _ (by decide), mix_c _ _ (by decide), mix_c _ _ (by decide), mix_c _ _ (by decide)]
              show ms _ 41 5 _ 22 q = _ ∧ ms _ 41 5 _ 23 q = _ ∧ ms _ 41 5 _ 24 q = _ ∧ ms _ 41 5 _ 25 q = _ ∧ ms _ 41 5 _ 26 q = _
              rw [ms_ne (by decide), ms_ne (by decide), ms_ne (by decide), ms_ne (by decide), ms_ne (by decide)]
              exact eK.1 q hq hne
            · rw [mix_c _ _ (by decide)]
              show ms _ 41 5 _ 21 5 = _
              rw [ms_ne (by decide)]; exact eK.2.1
            · rw [mix_c _ _ (by decide)]
              show ms _ 41 5 _ 21 6 = _
              rw [ms_ne (by decide)]; exact eK.2.2.1
            · intro k j hkj
              by_cases e : k < 85
              · rw [mix_c _ _ e, mix_c _ _ e]
              · rw [mix_d _ _ (by omega), mix_d _ _ (by omega), e5', ms_app, if_neg (by omega)]
            · rw [mix_cv]; exact hV1
            · rw [mix_cv, eC]
              have hMD : RM D 0 (cv (dcs M n nx dy t) 41) := RM_86 hMt hVt (fun i => (mix_d _ _ (by decide) i).symm)
              have hMX : RM X 0 (cv (dcs M n nx dy t) 41) := RM_fr hMD hVt (fun i hi => by rw [Nat.zero_add]; exact hK.2.2.1 i hi)
              have h5 := RM_ms (f := 0) (i := 5) (v := nI (dy + t + 1)) hMX hVt (Or.inr ⟨rfl, rfl⟩)
              have e45 : 0 + mo 0 5 = 4 := rfl
              rw [e45] at h5
              refine RM_86 h5 (by rw [← eC]; exact hV1) (fun i => ?_)
              rw [mix_d _ _ (by decide), e5', ev4]
            · rw [mix_cv]
              unfold EOkR EOk
              rw [mix_c _ _ (by decide), r22]
              exact ⟨⟨fun e => absurd e (by decide), fun e => by rcases e with e | e <;> exact absurd e (by decide), fun e => absurd e (by decide)⟩, fun e => absurd e (by decide), fun e => by rcases e with e | e <;> exact absurd e (by decide)⟩
            · rw [mix_cv, mix_cv]
              unfold uR uA
              rw [mix_c _ _ (by decide), r22, if_neg (by decide), if_pos rfl, eC]
              have eA : ms (ms (cv (dcs M n nx dy t) 41) 0 5 (nI (dy + t + 1))) 0 5 (ms (cv (dcs M n nx dy t) 41) 0 5 (nI (dy + t + 1)) 0 5 - 1) = cv (dcs M n nx dy t) 41 := by
                have d5 := (dcs_5 g1 g2 g5 g3 e5 t).2.2
                funext f i
                rw [ms_eq, ms_app, ms_app]
                by_cases e : f = 0 ∧ i = 5
                · rw [if_pos e, nI_pred, e.1, e.2]
                  exact d5.symm
                · rw [if_neg e, if_neg e]
              rw [eA]
              exact Alk_rf _
        have hm0 : mix M (dcs M n nx dy N) = M := by
          funext k j
          unfold mix
          by_cases e : k < 85
          · rw [if_pos e]
          · rw [if_neg e]; exact hF k j (by unfold SC; omega)
        refine go N 0 (by omega) (dcs M n nx dy N) ?_ (fun _ _ _ => rfl) ((hF 86 4 (by unfold SC; omega)).trans m5) ?_
        · show Hist (mix M (dcs M n nx dy N)) (nadd n 0) ((nx + 0) % 24)
          rw [hm0, show nadd n 0 = n by unfold nadd; split <;> omega, show (nx + 0) % 24 = nx by omega]
          exact h
        · show Fr SAct M (mix M (dcs M n nx dy N))
          rw [hm0]; exact Fr_rf _ _
      · rw [hF 86 4 (by unfold SC; omega), m5, nI_add]; exact w
    have go8 : ∀ m t : Nat, t + m = N → wL_X8_days_44 (fun r M1 => w_X9_days M1 (nI N) (fun r2 M2 => PAct M r r2 M2)) (m + 1) (dcs M n nx dy t) (nI N) (nI t) := by
      intro m
      induction m with
      | zero =>
        intro t ht
        have ht : t = N := by omega
        subst ht
        refine ⟨fun _ => ?_, fun e => absurd (nI_le (Nat.le_refl _) (by omega)) e⟩
        rw [(dcs_5 g1 g2 g5 g3 e5 t).2.2]
        exact fin
      | succ m ih =>
        intro t ht
        refine ⟨fun e => absurd e (nI_ge (by omega) (by omega)), fun _ => ?_⟩
        obtain ⟨d5, d6, dd⟩ := dcs_5 g1 g2 g5 g3 e5 t
        refine W0_keep (n := nadd n t) (nx := (nx + t) % 24) (by unfold nadd; split <;> omega) (by omega) d5 d6 ?_
        rw [kpC_o (by decide), dd, nI_1]
        intro v4 e4 M5 e5' v6 e6
        rw [e6, nI_1, e5', e4]
        exact ih (t + 1) (by omega)
    exact ⟨N + 1, go8 N 0 (by omega)⟩
  · refine m9 M rfl _ ⟨fun y => absurd ?_ w, fun _ => pa_same h _⟩
    rw [m5, nI_add] at y; exact y
