def gR1 (c p k : Nat) (b : Bool) : Nat := if k = c then 1 else if b then 10 - p else p
theorem WP_R1 {c p : Nat} {s : Nat → Bool} : ∀ n, WP (gR c p) n s = (if c < n ∧ s c = true then 0 else WP (gR1 c p) n s)
  | 0 => by rw [if_neg (by omega)]; rfl
  | n + 1 => by
    have ih := WP_R1 (c := c) (p := p) (s := s) n
    unfold WP
    rw [ih]
    by_cases e : n = c
    · subst e
      rw [if_neg (by omega)]
      unfold gR gR1
      rw [if_pos rfl, if_pos rfl]
      cases hs : s n
      · rw [if_neg (by decide), if_neg (fun h => absurd h.2 (by decide))]
      · rw [if_pos rfl, if_pos ⟨by omega, rfl⟩, Nat.mul_zero]
    · have hg : gR c p n (s n) = gR1 c p n (s n) := by
        unfold gR gR1
        rw [if_neg e, if_neg e]
      rw [hg]
      by_cases h : c < n ∧ s c = true
      · rw [if_pos h, if_pos ⟨by omega, h.2⟩, Nat.zero_mul]
      · rw [if_neg h, if_neg (fun z => h ⟨by omega, z.2⟩)]
theorem pc_n {m n : Nat} (hm : m < 2 ^ n) (hn : n ≤ 6) : pc m = fb_ct (bs m) n := by
  have : ∀ j, n + j ≤ 6 → fb_ct (bs m) (n + j) = fb_ct (bs m) n := by
    intro j
    induction j with
    | zero => intro _; rfl
    | succ j ih =>
      intro hj
      rw [← Nat.add_assoc, fb_ct_succ, ih (by omega)]
      have hb : bs m (n + j) = false := Nat.testBit_lt_two_pow (Nat.lt_of_lt_of_le hm (Nat.pow_le_pow_right (by decide) (by omega)))
      rw [hb, if_neg (by decide), Nat.add_zero]
  have h := this (6 - n) (by omega)
  rw [show n + (6 - n) = 6 by omega] at h
  exact h
section AW2
variable {M : Mem} {A : Tn} {c d p : Nat} {x : Int32} {Q : Int64 → Mem → Prop}
theorem p10 {A : Tn} (hV : V A) : 10 ^ (np A - 1) < 2 ^ 17 ∧ 0 < 10 ^ (np A - 1) := by
  have hn := (V_np hV).2
  have h1 : 10 ^ (np A - 1) ≤ 10 ^ 5 := Nat.pow_le_pow_right (by decide) (by omega)
  have h2 : (10 : Nat) ^ 5 < 2 ^ 17 := by decide
  exact ⟨by omega, Nat.pow_pos (by decide)⟩
theorem gcd_nz {A : Tn} {a : Nat} (hV : V A) : 0 < Nat.gcd (10 ^ (np A - 1)) a ∧ Nat.gcd (10 ^ (np A - 1)) a < 2 ^ 63 := by
  have h := p10 hV
  have h1 := Nat.gcd_pos_of_pos_left a h.2
  have h2 := Nat.gcd_le_left a h.2
  exact ⟨h1, by omega⟩
theorem Aw8 (h3 : M 41 3 = nI (np A)) (hV : V A) (hc : c < np A) (hd : d < nd A) (hp : p ≤ 10) (hB : Bal M (np A) (bw A c d) (bv A c)) (q : (x = 0 → Q (lN (abv A c d p) / lN (Nat.gcd (10 ^ (np A - 1)) (abv A c d p))) M) ∧ (¬ x = 0 → Q (lN (10 ^ (np A - 1)) / lN (Nat.gcd (10 ^ (np A - 1)) (abv A c d p))) M)) : ∃ n2 : Nat, wL_X8_awake_89 Q n2 M (nI c) (nI p) x 0 (lN (10 ^ (np A - 1))) 0 := by
  have hn := (V_np hV).2
  have hpow : 2 ^ np A ≤ 2 ^ 6 := Nat.pow_le_pow_right (by decide) hn
  have h10 := p10 hV
  have hab := abv_le (d := d) hc hp
  have go : ∀ m i : Nat, i + m = 2 ^ np A → wL_X8_awake_89 Q (m + 1) M (nI c) (nI p) x (lN (fb_sm (fun m => HC A c d p (bs m)) i)) (lN (10 ^ (np A - 1))) (nI i) := by
    intro m
    induction m with
    | zero =>
      intro i hi
      have hi : i = 2 ^ np A := by omega
      subst hi
      refine ⟨fun _ => ?_, fun e => absurd ?_ e⟩
      · rw [abv_C hc]
        refine E8 17 _ _ 0 (by omega) (by omega) (by omega) (by decide) ?_
        obtain ⟨g1, g2⟩ := gcd_nz (a := abv A c d p) hV
        have gz : ¬ lN (Nat.gcd (10 ^ (np A - 1)) (abv A c d p)) = 0 := fun e => by
          have := (pk_lEQ (b := 0) g2 (by decide)).mp e
          omega
        refine ⟨fun _ => ⟨fun z => ⟨gz, q.2 z⟩, fun z => ⟨gz, q.1 z⟩⟩, fun e => absurd ((lz g2).mp e) (by omega)⟩
      · rw [h3, shl7 _ (by omega)]; exact nI_le (Nat.le_refl _) (by omega)
    | succ m ih =>
      intro i hi
      have hh := ih (i + 1) (by omega)
      rw [fb_sm_succ] at hh
      have hb := bit6t (s := i) (c := c) (by omega) (by omega)
      refine ⟨fun e => absurd e (by rw [h3, shl7 _ (by omega)]; exact nI_ge (by omega) (by omega)), fun _ => ⟨fun z => ?_, fun z => ?_⟩⟩
      · have hbf : ¬ bs i c = true := fun e => (hb.mpr e) z
        unfold wJ_X8_awake_117
        refine ⟨fun e => absurd rfl e, fun _ => W2_awake hn hB (fun k hk => bw_le hV hk hd) (bv_3 A c) ?_⟩
        have hop : OPN (bw A c d) (bv A c) (awk (nI i)) (np A) ↔ Op A c d (bs i) := OPN_cong (fun k hk => ⟨rfl, rfl, by
          have := bit6t (s := i) (c := k) (by omega) (by omega)
          unfold awk
          cases hbv : i.testBit k with
          | true => exact (decide_eq_true (this.mpr hbv)).trans hbv.symm
          | false => exact (decide_eq_false (fun e => by rw [this.mp e] at hbv; exact absurd hbv (by decide))).trans hbv.symm⟩)
        rw [bI_congr hop]
        by_cases ho : Op A c d (bs i)
        · rw [bI_t ho]
          refine br1 (W_bc (by omega) ?_)
          have hw := WP_pow (p := p) (Bool.eq_false_iff.mpr hbf) (np A)
          rw [if_pos hc] at hw
          have hpc := pc_n (m := i) (n := np A) (by omega) hn
          rw [h3, show nI (np A) - 1 = nI (np A - 1) from by rw [show np A = (np A - 1) + 1 by omega, nI_pred]; rfl]
          refine W8_cases (by rw [hpc]; exact hw.1) (by omega) hp (fun v11 e11 v12 e12 => ?_)
          rw [hpc, ← hw.2, ← HC_o hbf ho, lN_add] at e11
          rw [e11, e12, nI_1]
          exact hh
        · rw [bI_f ho]
          rw [HC_n ho, Nat.add_zero] at hh
          refine br0 (fun v6 e6 => ?_)
          rw [e6, nI_1]
          exact hh
      · have hbt : bs i c = true := hb.mp z
        unfold wJ_X8_awake_117
        refine ⟨fun _ v2 e2 => ?_, fun e => absurd e (by decide)⟩
        rw [HC_t hbt, Nat.add_zero] at hh
        rw [e2, nI_1]
        exact hh
  exact ⟨2 ^ np A + 1, go (2 ^ np A) 0 (by omega)⟩
theorem Aw8b (h3 : M 41 3 = nI (np A)) (hV : V A) (hp0 : 0 < np A) (q : ∃ n2 : Nat, wL_X8_awake_89 Q n2 M (nI c) (nI p) x 0 (lN (10 ^ (np A - 1))) 0) : ∃ n15 : Nat, wL_X8_awake_60 Q n15 M (nI c) (nI p) x 0 1 1 := by
  have hn := (V_np hV).2
  have go : ∀ m k : Nat, k + m = np A → 1 ≤ k → wL_X8_awake_60 Q (m + 1) M (nI c) (nI p) x 0 (lN (10 ^ (k - 1))) (nI k) := by
    intro m
    induction m with
    | zero =>
      intro k hk hk1
      have hk : k = np A := by omega
      subst hk
      exact ⟨fun _ => q, fun e => absurd (by rw [h3]; exact nI_le (Nat.le_refl _) (by omega)) e⟩
    | succ m ih =>
      intro k hk hk1
      refine ⟨fun e => absurd e (by rw [h3]; exact nI_ge (by omega) (by omega)), fun _ v3 e3 v4 e4 => ?_⟩
      rw [show (10 : Int64) = lN 10 from rfl, lN_mul, ← Nat.pow_succ, show (k - 1).succ = k + 1 - 1 by omega] at e3
      rw [e3, e4, nI_1]
      exact ih (k + 1) (by omega) (by omega)
  exact ⟨np A - 1 + 1, go (np A - 1) 1 (by omega) (Nat.le_refl _)⟩
theorem Aw9 (hM : RM M 0 A) (hV : V A) (h0 : M 85 15 = 0) (hc : c < np A) (hd : d < nd A) (hp : p ≤ 10) (q : (x = 0 → Q (lN (abv A c d p) / lN (Nat.gcd (10 ^ (np A - 1)) (abv A c d p))) M) ∧ (¬ x = 0 → Q (lN (10 ^ (np A - 1)) / lN (Nat.gcd (10 ^ (np A - 1)) (abv A c d p))) M)) : ∃ n13 : Nat, wL_X9_awake_52 Q n13 M (nI c) (nI d) (nI p) x 0 0 0 := by
  have hn := (V_np hV).2
  have hpow : 2 ^ np A ≤ 2 ^ 6 := Nat.pow_le_pow_right (by decide) hn
  have h10 := p10 hV
  have hab := abv_le (d := d) hc hp
  have m3 : ∀ v, ms M 85 15 v 86 3 = nI (np A) := fun v => by rw [ms_ne (by decide)]; exact (RM0 hM (j := 3) (by decide)).trans (V_np hV).1
  have e10 : (10 - nI p).toInt64 = lN (10 - p) := by
    rw [show (10 : Int32) = nI 10 from rfl, pk_sub hp, nI_l (by omega)]
  have inner : ∀ (R52 : Mem → Int32 → Int32 → Int32 → Int32 → Int64 → Int64 → Int32 → Prop) (i ab be z : Nat) (v : Int32), i < 64 → z = (if bs i c then 0 else 1) → R52 (ms M 85 15 (nI i)) (nI c) (nI d) (nI p) x (lN (ab + HR A c d p (bs i))) (lN (be + WP (gR c p) (np A) (bs i))) (nI (i + 1)) → ∀ m k : Nat, k + m = np A → wL_X9_awake_84 Q R52 (m + 1) (ms M 85 15 v) (nI c) (nI d) (nI p) x (lN ab) (lN be) (nI i) (lN (z * WP (gR1 c p) k (bs i))) (nI k) := by
    intro R52 i ab be z v hi hz hR m
    induction m with
    | zero =>
      intro k hk
      have hk : k = np A := by omega
      subst hk
      refine ⟨fun _ M2 e2 => ?_, fun e => absurd (by rw [m3]; exact nI_le (Nat.le_refl _) (by omega)) e⟩
      have eM2 : M2 = ms M 85 15 (nI i) := by
        rw [e2]
        funext a b
        rw [ms_app, ms_app, ms_app]
        split <;> rfl
      have hw : z * WP (gR1 c p) (np A) (bs i) = WP (gR c p) (np A) (bs i) := by
        rw [WP_R1, hz]
        by_cases hs : bs i c = true
        · rw [if_pos hs, if_pos ⟨hc, hs⟩, Nat.zero_mul]
        · rw [if_neg hs, if_neg (fun e => hs e.2), Nat.one_mul]
      rw [hw, eM2]
      refine W9_opens (B := 0) (RM_msS hM hV (by decide)) (by decide) hV hc hd ?_
      rw [ms_eq]
      have hop : Op A c d (aslp (nI i)) ↔ Op A c d (fun k => !bs i k) := OPN_cong (fun k hk => ⟨rfl, rfl, by
        have := bit6t (s := i) (c := k) hi (by omega)
        unfold aslp
        show _ = !i.testBit k
        cases hbv : i.testBit k with
        | true => exact decide_eq_false (this.mpr hbv)
        | false => exact decide_eq_true (Classical.byContradiction (fun e => by rw [this.mp e] at hbv; exact absurd hbv (by decide)))⟩)
      rw [bI_congr hop, lN_add]
      by_cases ho : Op A c d (fun k => !bs i k)
      · rw [bI_t ho]
        rw [HR_o ho] at hR
        refine br1 (fun v9 e9 v10 e10 v11 e11 => ?_)
        rw [e9, e10, e11, nI_1, lN_add]
        exact hR
      · rw [bI_f ho]
        rw [HR_n ho, Nat.add_zero] at hR
        refine br0 (fun v9 e9 v10 e10 v11 e11 => ?_)
        rw [e9, e10, e11, nI_1, show lN ab + 0 = lN ab from lN_add ab 0]
        exact hR
    | succ m ih =>
      intro k hk
      have hh := ih (k + 1) (by omega)
      have hs : WP (gR1 c p) (k + 1) (bs i) = WP (gR1 c p) k (bs i) * gR1 c p k (bs i k) := rfl
      rw [hs, ← Nat.mul_assoc] at hh
      refine ⟨fun e => absurd e (by rw [m3]; exact nI_ge (by omega) (by omega)), fun _ => ⟨fun z => ?_, fun z => ?_⟩⟩
      · have hne : k ≠ c := fun e => z (by rw [e])
        refine W9_hasN hi (by omega) (fun hb => br1 (fun v18 e18 v19 e19 => ?_)) (fun hb => br0 (fun v16 e16 v17 e17 => ?_))
        · have hg : gR1 c p k (bs i k) = 10 - p := by
            unfold gR1
            rw [if_neg hne, if_pos (show bs i k = true from hb)]
          rw [hg] at hh
          rw [e10, lN_mul] at e18
          rw [e18, e19, nI_1]
          exact hh
        · have hg : gR1 c p k (bs i k) = p := by
            unfold gR1
            rw [if_neg hne, if_neg (show ¬ bs i k = true from hb)]
          rw [hg] at hh
          rw [nI_l (by omega), lN_mul] at e16
          rw [e16, e17, nI_1]
          exact hh
      · have he : k = c := nI_inj (by omega) (by omega) z
        intro v20 e20 v21 e21
        have hg : gR1 c p k (bs i k) = 1 := by
          unfold gR1
          rw [if_pos he]
        rw [hg] at hh
        rw [show (1 : Int64) = lN 1 from rfl, lN_mul] at e20
        rw [e20, e21, nI_1]
        exact hh
  have go : ∀ m i : Nat, i + m = 2 ^ np A → ∀ v, wL_X9_awake_52 Q (m + 1) (ms M 85 15 v) (nI c) (nI d) (nI p) x (lN (fb_sm (fun m => HR A c d p (bs m)) i)) (lN (fb_sm (fun m => WP (gR c p) (np A) (bs m)) i)) (nI i) := by
    intro m
    induction m with
    | zero =>
      intro i hi v
      have hi : i = 2 ^ np A := by omega
      subst hi
      refine ⟨fun _ M2 e2 => ?_, fun e => absurd (by rw [m3, shl7 _ (by omega)]; exact nI_le (Nat.le_refl _) (by omega)) e⟩
      have eM2 : M2 = M := by
        rw [e2]
        funext a b
        rw [ms_app, ms_app]
        by_cases e : a = 85 ∧ b = 15
        · rw [if_pos e, e.1, e.2, h0]
        · rw [if_neg e, if_neg e]
      rw [eM2, abv_R hc, blw_R hc hp]
      obtain ⟨g1, g2⟩ := gcd_nz (a := abv A c d p) hV
      refine E9 17 _ _ (by omega) (by omega) (by omega) ?_ ?_
      · rw [Nat.gcd_comm]
        exact fun e => by
          have := (pk_lEQ (b := 0) g2 (by decide)).mp e
          omega
      · rw [Nat.gcd_comm]
        exact ⟨fun z => q.2 z, fun z => q.1 z⟩
    | succ m ih =>
      intro i hi v
      refine ⟨fun e => absurd e (by rw [m3, shl7 _ (by omega)]; exact nI_ge (by omega) (by omega)), fun _ => ?_⟩
      have hR := ih (i + 1) (by omega) (nI i)
      rw [fb_sm_succ, fb_sm_succ] at hR
      refine W9_hasN (by omega) (by omega) (fun hb => br1 ?_) (fun hb => br0 ?_)
      · have h := inner _ i _ _ 0 v (by omega) (by rw [if_pos (show bs i c = true from hb)]) hR (np A) 0 (by omega)
        rw [Nat.zero_mul] at h
        exact ⟨np A + 1, h⟩
      · have h := inner _ i _ _ 1 v (by omega) (by rw [if_neg (show ¬ bs i c = true from hb)]) hR (np A) 0 (by omega)
        exact ⟨np A + 1, h⟩
  refine ⟨2 ^ np A + 1, ?_⟩
  have h := go (2 ^ np A) 0 (by omega) (M 85 15)
  rw [ms_id] at h
  exact h
end AW2
theorem S_awake (M : Mem) (a b pp x : Int32) (A : Tn) (hC : RC M 41 A) (hM : RM M 0 A) (hV : V A) (h0 : M 85 15 = 0) : w_X8_awake M a b pp x (fun r M1 => w_X9_awake M1 a b pp x (fun r2 M2 => r = r2 ∧ Fr SScr M M2)) := by
  have hn := (V_np hV).2
  have h3 : M 41 3 = nI (np A) := (hC.1 3 (by decide)).trans (V_np hV).1
  have P8L : ∀ {M1 : Mem} {y : Int32} {Q : Int32 → Mem → Prop}, RC M1 41 A → (∀ p, p < np A → y = nI p → Q 1 M1) → (¬ isIx y (np A) → Q 0 M1) → w_X8_isPerson M1 y Q := fun h q1 q0 => P8 h hV q1 q0
  unfold w_X8_awake
  refine P8 hC hV (fun c hc ec => br1 (D8 hC hV (fun d hd ed => br1 ?_) (fun hne => br0 ?_))) (fun hne => br0 ?_)
  · subst ec ed
    rw [W8w11]
    by_cases hp : isIx pp 11
    · rw [bI_t hp]
      refine br1 ?_
      rw [W8w2]
      by_cases hx : isIx x 2
      · rw [bI_t hx]
        obtain ⟨p, hp11, ep⟩ := hp
        subst ep
        refine cr1 (W2_hold hC (by decide) hV hc hd (fun M10 hF10 hB => ?_))
        have h310 : M10 41 3 = nI (np A) := (hF10 41 3 (by unfold SBal; omega)).trans h3
        have hM10 : RM M10 0 A := RM_86 hM hV (fun i => hF10 _ _ (by unfold SBal; omega))
        have fin : ∀ R : Int64 → Mem → Prop, ((x = 0 → R (lN (abv A c d p) / lN (Nat.gcd (10 ^ (np A - 1)) (abv A c d p))) M10) ∧ (¬ x = 0 → R (lN (10 ^ (np A - 1)) / lN (Nat.gcd (10 ^ (np A - 1)) (abv A c d p))) M10)) → w_X9_awake M10 (nI c) (nI d) (nI p) x R := by
          intro R hR
          unfold w_X9_awake
          refine P9 hM10 hV (fun p2 hp2 e => br1 (D9 hM10 hV (fun d2 hd2 e2 => br1 ?_) (fun h => absurd ⟨d, hd, rfl⟩ h))) (fun h => absurd ⟨c, hc, rfl⟩ h)
          rw [W9i10, bI_t ⟨p, hp11, rfl⟩]
          refine br1 ?_
          rw [W9i1, bI_t hx]
          exact cr1 (Aw9 hM10 hV ((hF10 85 15 (by unfold SBal; omega)).trans h0) hc hd (by omega) hR)
        have hFs : Fr SScr M M10 := Fr_mono hF10 (fun k j h => bal_scr h)
        refine Aw8b h310 hV (by omega) (Aw8 h310 hV hc hd (by omega) hB ⟨fun z => fin _ ⟨fun _ => ⟨rfl, hFs⟩, fun y => absurd z y⟩, fun z => fin _ ⟨fun y => absurd y z, fun _ => ⟨rfl, hFs⟩⟩⟩)
      · rw [bI_f hx]
        refine cr0 ?_
        unfold w_X9_awake
        refine P9 hM hV (fun p2 hp2 e => br1 (D9 hM hV (fun d2 hd2 e2 => br1 ?_) (fun h => absurd ⟨d, hd, rfl⟩ h))) (fun h => absurd ⟨c, hc, rfl⟩ h)
        rw [W9i10, bI_t hp]
        refine br1 ?_
        rw [W9i1, bI_f hx]
        exact cr0 ⟨rfl, Fr_rf _ _⟩
    · rw [bI_f hp]
      refine br0 ?_
      unfold w_X9_awake
      refine P9 hM hV (fun p2 hp2 e => br1 (D9 hM hV (fun d2 hd2 e2 => br1 ?_) (fun h => absurd ⟨d, hd, rfl⟩ h))) (fun h => absurd ⟨c, hc, rfl⟩ h)
      rw [W9i10, bI_f hp]
      exact br0 ⟨rfl, Fr_rf _ _⟩
  · unfold w_X9_awake
    exact P9 hM hV (fun p2 hp2 e => br1 (D9 hM hV (fun r2 hr2 e2 => absurd ⟨r2, hr2, e2⟩ hne) (fun h => br0 ⟨rfl, Fr_rf _ _⟩))) (fun h => absurd ⟨c, hc, ec⟩ h)
  · unfold w_X9_awake
    exact P9 hM hV (fun p2 hp2 e => absurd ⟨p2, hp2, e⟩ hne) (fun h => br0 ⟨rfl, Fr_rf _ _⟩)
