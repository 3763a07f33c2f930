/-! knocks by draws -/
theorem cmp0 (x : Int64) : (lg_cmp x 0 = 0) ↔ x = 0 := by
  unfold lg_cmp
  by_cases h : x > 0
  · rw [if_pos h]
    refine ⟨fun e => absurd e (by decide), fun e => ?_⟩
    rw [e] at h
    exact absurd h (by decide)
  · rw [if_neg h]
    by_cases e : x = 0
    · rw [if_pos e]; exact ⟨fun _ => e, fun _ => rfl⟩
    · rw [if_neg e]; exact ⟨fun h => absurd h (by decide), fun h => absurd h e⟩
def dgo (B : Tn) (p d : Nat) : Prop := atD B p d ∧ Op B p d allA
noncomputable def dB1 (B : Tn) (p d : Nat) : Tn := @ite _ (dgo B p d) (Classical.propDecidable _) (passA B p d) B
noncomputable def dl1 (B : Tn) (p d l : Nat) : Nat := @ite _ (dgo B p d) (Classical.propDecidable _) (l + 1) l
noncomputable def dB2 (B : Tn) (t : Nat) : Tn := if t % 4 = 0 then ms B 0 5 (B 0 5 + 1) else B
def dnx (t : Nat) : Nat := t * 16807 % 2147483647
theorem dgo_t {B : Tn} {p d l : Nat} (h : dgo B p d) : dB1 B p d = passA B p d ∧ dl1 B p d l = l + 1 := ⟨@if_pos _ (Classical.propDecidable _) h _ _ _, @if_pos _ (Classical.propDecidable _) h _ _ _⟩
theorem dgo_f {B : Tn} {p d l : Nat} (h : ¬ dgo B p d) : dB1 B p d = B ∧ dl1 B p d l = l := ⟨@if_neg _ (Classical.propDecidable _) h _ _ _, @if_neg _ (Classical.propDecidable _) h _ _ _⟩
noncomputable def dst (A : Tn) (s : Nat) : Nat → Tn × Nat × Nat
  | 0 => (A, s, 0)
  | k + 1 => (dB2 (dB1 (dst A s k).1 (dnx (dst A s k).2.1 % np A) (dnx (dst A s k).2.1 % nd A)) (dnx (dst A s k).2.1), dnx (dst A s k).2.1, dl1 (dst A s k).1 (dnx (dst A s k).2.1 % np A) (dnx (dst A s k).2.1 % nd A) (dst A s k).2.2)
theorem V_day0 {A : Tn} (h : V A) : A 0 5 = nI (na A 0 5) ∧ na A 0 5 ≤ 2000 := ⟨h.1.2.2.2.2.2.2.2.2.2.2.1, h.1.2.2.2.2.2.2.2.2.2.2.2.1⟩
theorem dst_ok {A : Tn} {s : Nat} (hV : V A) (hp : 0 < np A) (hd : 0 < nd A) (hday : na A 0 5 ≤ 999) (hs : s < 2147483647) : ∀ k, k ≤ 60 → V (dst A s k).1 ∧ np (dst A s k).1 = np A ∧ nd (dst A s k).1 = nd A ∧ na (dst A s k).1 0 5 ≤ 999 + k ∧ (dst A s k).2.1 < 2147483647 ∧ (dst A s k).2.2 ≤ k := by
  intro k
  induction k with
  | zero => intro _; exact ⟨hV, rfl, rfl, hday, hs, Nat.le_refl _⟩
  | succ k ih =>
    intro hk
    obtain ⟨h1, h2, h3, h4, h5, h6⟩ := ih (by omega)
    generalize e : dst A s k = st at h1 h2 h3 h4 h5 h6
    have hpl : dnx st.2.1 % np A < np st.1 := by rw [h2]; exact Nat.mod_lt _ hp
    have hdl : dnx st.2.1 % nd A < nd st.1 := by rw [h3]; exact Nat.mod_lt _ hd
    have b1 : V (dB1 st.1 (dnx st.2.1 % np A) (dnx st.2.1 % nd A)) ∧ np (dB1 st.1 (dnx st.2.1 % np A) (dnx st.2.1 % nd A)) = np A ∧ nd (dB1 st.1 (dnx st.2.1 % np A) (dnx st.2.1 % nd A)) = nd A ∧ na (dB1 st.1 (dnx st.2.1 % np A) (dnx st.2.1 % nd A)) 0 5 ≤ 999 + k ∧ dl1 st.1 (dnx st.2.1 % np A) (dnx st.2.1 % nd A) st.2.2 ≤ k + 1 := by
      by_cases g : dgo st.1 (dnx st.2.1 % np A) (dnx st.2.1 % nd A)
      · rw [(dgo_t (l := st.2.2) g).1, (dgo_t (l := st.2.2) g).2]
        refine ⟨V_pass h1 hpl hdl, ?_, ?_, ?_, by omega⟩
        · rw [(pass_n _ _ _).2.1]; exact h2
        · rw [(pass_n _ _ _).1]; exact h3
        · unfold na; rw [pass_sc]; exact h4
      · rw [(dgo_f (l := st.2.2) g).1, (dgo_f (l := st.2.2) g).2]
        exact ⟨h1, h2, h3, h4, by omega⟩
    obtain ⟨c1, c2, c3, c4, c5⟩ := b1
    have hst : dst A s (k + 1) = (dB2 (dB1 st.1 (dnx st.2.1 % np A) (dnx st.2.1 % nd A)) (dnx st.2.1), dnx st.2.1, dl1 st.1 (dnx st.2.1 % np A) (dnx st.2.1 % nd A) st.2.2) := by rw [← e]; rfl
    rw [hst]
    generalize dB1 st.1 (dnx st.2.1 % np A) (dnx st.2.1 % nd A) = B at c1 c2 c3 c4
    have b2 : V (dB2 B (dnx st.2.1)) ∧ np (dB2 B (dnx st.2.1)) = np A ∧ nd (dB2 B (dnx st.2.1)) = nd A ∧ na (dB2 B (dnx st.2.1)) 0 5 ≤ 999 + (k + 1) := by
      unfold dB2
      split
      · have e5 := (V_day0 c1).1
        have l5 := (V_day0 c1).2
        rw [e5, nI_1]
        refine ⟨V_day c1 (by omega), ?_, ?_, ?_⟩
        · rw [← c2]; unfold np na; rw [ms_ne2 (by decide)]
        · rw [← c3]; unfold nd na; rw [ms_ne2 (by decide)]
        · show Int32.toNatClampNeg (ms B 0 5 _ 0 5) ≤ _
          rw [ms_eq, ix_nat (by omega)]; omega
      · exact ⟨c1, c2, c3, by omega⟩
    exact ⟨b2.1, b2.2.1, b2.2.2.1, b2.2.2.2, Nat.mod_lt _ (by decide), c5⟩
theorem RC_ms0 {M : Mem} {T : Nat} {A : Tn} {v : Int32} (hA : RC M T A) : RC (ms M T 5 v) T (ms A 0 5 v) := by
  refine ⟨fun j hj => ?_, fun g j hr => ?_⟩
  · rw [ms_app, ms_app]
    by_cases e : j = 5
    · rw [if_pos ⟨rfl, e⟩, if_pos ⟨rfl, e⟩]
    · rw [if_neg (fun z => e z.2), if_neg (fun z => e z.2)]; exact hA.1 j hj
  · have hr := (rel_sc (A := ms A 0 5 v) (B := A) (by rw [ms_ne2 (by decide)]) (by rw [ms_ne2 (by decide)]) g j).mp hr
    have hf := rel_f hr
    rw [ms_ne (by omega), ms_ne (by omega)]
    exact hA.2 g j hr
def rsm (B : Tn) : Nat → Int32
  | 0 => 0
  | i + 1 => rsm B i + B 4 i
section DR2
variable {M : Mem} {A B : Tn} {s N : Nat} {x : Int32}
theorem W6_rsm {Q : Int32 → Mem → Prop} (hA : RC M 52 B) (hV : V B) (q : Q (rsm B (np B)) M) : w_X6_roomsAdded 52 M Q := by
  have hn := (V_np hV).2
  have e3 : M 52 3 = nI (np B) := (hA.1 3 (by decide)).trans (V_np hV).1
  have go : ∀ m i : Nat, i + m = np B → wL_X6_roomsAdded_4 52 Q (m + 1) M (rsm B i) (nI i) := by
    intro m
    induction m with
    | zero =>
      intro i hi
      have hi : i = np B := by omega
      subst hi
      exact ⟨fun _ => q, fun e => absurd (by rw [e3]; exact nI_le (Nat.le_refl _) (by omega)) e⟩
    | succ m ih =>
      intro i hi
      refine ⟨fun e => absurd e (by rw [e3]; exact nI_ge (by omega) (by omega)), fun _ => ⟨vp_in_nI (by omega) (by decide), fun v3 e3 v4 e4 => ?_⟩⟩
      rw [ix_nat (by omega), hA.2 4 i (rel_p (by decide) (by decide) (by omega))] at e3
      rw [e3, e4, nI_1]
      exact ih (i + 1) (by omega)
  exact ⟨np B + 1, go (np B) 0 (by omega)⟩
theorem dr_x {t : Nat} (ht : t < 2147483647) : lN t * 16807 - lN t * 16807 / 2147483647 * 2147483647 = lN (dnx t) := by
  rw [show (16807 : Int64) = lN 16807 from rfl, show (2147483647 : Int64) = lN 2147483647 from rfl, lN_mul]
  exact pk_lRem (by omega) (by decide) (by decide)
theorem dr_m {t n : Nat} (ht : t < 2147483647) (hn : 0 < n) (hn6 : n ≤ 6) : Int64.toInt32 (lN t - lN t / (nI n).toInt64 * (nI n).toInt64) = nI (t % n) := by
  rw [nI_l (by omega), pk_lRem (by omega) hn (by omega), lN_i]
theorem dr_nz {n : Nat} (hn : 0 < n) (hn6 : n ≤ 6) : ¬ (nI n).toInt64 = 0 := by
  rw [nI_l (by omega)]
  exact fun e => absurd ((pk_lEQ (b := 0) (by omega) (by decide)).mp e) (by omega)
theorem dr_4 {t : Nat} (ht : t < 2147483647) : (lg_cmp (lN t - lN t / 4 * 4) 0 = 0) ↔ t % 4 = 0 := by
  rw [cmp0, show (4 : Int64) = lN 4 from rfl, pk_lRem (by omega) (by decide) (by decide)]
  exact pk_lEQ (b := 0) (by omega) (by decide)
theorem dnx_lt (t : Nat) : dnx t < 2147483647 := Nat.mod_lt _ (by decide)
theorem Dr8 {Q : Int32 → Mem → Prop} (hC : RC M 41 A) (hR : RC M 52 A) (hV : V A) (hp : 0 < np A) (hd : 0 < nd A) (hday : na A 0 5 ≤ 999) (hs : s < 2147483647) (hN : N ≤ 60) (q : ∀ M2, Fr SScr M M2 → (x = 0 → Q (nI (dst A s N).2.2) M2) ∧ (¬ x = 0 → Q (rsm (dst A s N).1 (np A)) M2)) : ∃ n15 : Nat, wL_X8_drawn_63 Q n15 M (nI N) x 0 (lN s) 0 := by
  have hn := (V_np hV).2
  have hd6 := (V_nd hV).2
  have e3 : M 41 3 = nI (np A) := (hC.1 3 (by decide)).trans (V_np hV).1
  have e2 : M 41 2 = nI (nd A) := (hC.1 2 (by decide)).trans (V_nd hV).1
  have go : ∀ m k : Nat, k + m = N → ∀ M1, Fr SScr M M1 → RC M1 52 (dst A s k).1 → wL_X8_drawn_63 Q (m + 1) M1 (nI N) x (nI (dst A s k).2.2) (lN (dst A s k).2.1) (nI k) := by
    intro m
    induction m with
    | zero =>
      intro k hk M1 hF hR1
      have hk : k = N := by omega
      subst hk
      obtain ⟨h1, h2, -⟩ := dst_ok hV hp hd hday hs k (by omega)
      refine ⟨fun _ => ⟨fun z => W6_rsm hR1 h1 ?_, fun z => (q M1 hF).1 z⟩, fun e => absurd (nI_le (Nat.le_refl _) (by omega)) e⟩
      rw [h2]; exact (q M1 hF).2 z
    | succ m ih =>
      intro k hk M1 hF hR1
      obtain ⟨h1, h2, h3, h4, h5, h6⟩ := dst_ok hV hp hd hday hs k (by omega)
      refine ⟨fun e => absurd e (nI_ge (by omega) (by omega)), fun _ v5 ev5 => ?_⟩
      have hih := ih (k + 1) (by omega)
      have hst : dst A s (k + 1) = (dB2 (dB1 (dst A s k).1 (dnx (dst A s k).2.1 % np A) (dnx (dst A s k).2.1 % nd A)) (dnx (dst A s k).2.1), dnx (dst A s k).2.1, dl1 (dst A s k).1 (dnx (dst A s k).2.1 % np A) (dnx (dst A s k).2.1 % nd A) (dst A s k).2.2) := rfl
      rw [hst] at hih
      generalize dst A s k = st at h1 h2 h3 h4 h5 h6 hih ev5 hR1
      rw [dr_x h5] at ev5
      have hx := dnx_lt st.2.1
      have hpl : dnx st.2.1 % np A < np st.1 := by rw [h2]; exact Nat.mod_lt _ hp
      have hdl : dnx st.2.1 % nd A < nd st.1 := by rw [h3]; exact Nat.mod_lt _ hd
      rw [hF 41 3 (by unfold SScr; omega), hF 41 2 (by unfold SScr; omega), e3, e2, ev5, dr_m hx hp hn, dr_m hx hd hd6]
      refine ⟨dr_nz hp hn, fun v7 e7 => ⟨dr_nz hd hd6, fun v9 e9 => ?_⟩⟩
      rw [e7, e9]
      have fin : ∀ (M2 : Mem) (l : Int32), Fr SScr M M2 → RC M2 52 (dB1 st.1 (dnx st.2.1 % np A) (dnx st.2.1 % nd A)) → l = nI (dl1 st.1 (dnx st.2.1 % np A) (dnx st.2.1 % nd A) st.2.2) → wJ_X8_drawn_152 Q (wL_X8_drawn_63 Q (m + 1)) M2 (nI N) x l (lN (dnx st.2.1)) (nI k) := by
        intro M2 l hF2 hR2 el
        unfold wJ_X8_drawn_152
        rw [dr_4 hx, el]
        refine ⟨fun z v2 ev2 => ?_, fun z v3 ev3 M4 em4 v5 ev5 => ?_⟩
        · rw [ev2, nI_1]
          refine hih M2 hF2 ?_
          unfold dB2
          rw [if_neg z]; exact hR2
        · rw [ev5, nI_1]
          refine hih M4 (by rw [em4]; exact Fr_ms hF2 _ (by unfold SScr; omega)) ?_
          unfold dB2
          rw [if_pos z, em4, ev3, hR2.1 5 (by decide)]
          exact RC_ms0 hR2
      refine W6_atD hR1 h1 hpl hdl ?_
      by_cases ha : atD st.1 (dnx st.2.1 % np A) (dnx st.2.1 % nd A)
      · rw [bI_t ha]
        refine br1 (W8_opens hR1 (by decide) h1 hpl hdl (fun M2 hF2 => ?_))
        have hR2 := RC_bal hR1 (by decide) hF2
        have hF2' := Fr_tr hF (Fr_mono hF2 (fun k j h => bal_scr h))
        by_cases ho : Op st.1 (dnx st.2.1 % np A) (dnx st.2.1 % nd A) allA
        · rw [bI_t ho]
          have g := dgo_t (l := st.2.2) ⟨ha, ho⟩
          refine br1 (W6_pass hR2 h1 hpl hdl (fun v18 e18 => fin _ _ ?_ ?_ ?_))
          · unfold psM
            exact Fr_ms (Fr_ms (Fr_ms hF2' _ (by unfold SScr; omega)) _ (by unfold SScr; omega)) _ (by unfold SScr; omega)
          · rw [g.1]; exact RC_ps hR2 h1 hpl hdl
          · rw [e18, g.2, nI_1]
        · rw [bI_f ho]
          have g := dgo_f (l := st.2.2) (fun (h : dgo st.1 (dnx st.2.1 % np A) (dnx st.2.1 % nd A)) => ho h.2)
          exact br0 (fin M2 _ hF2' (by rw [g.1]; exact hR2) (by rw [g.2]))
      · rw [bI_f ha]
        have g := dgo_f (l := st.2.2) (fun (h : dgo st.1 (dnx st.2.1 % np A) (dnx st.2.1 % nd A)) => ha h.1)
        exact br0 (fin M1 _ hF (by rw [g.1]; exact hR1) (by rw [g.2]))
  exact ⟨N + 1, go N 0 (by omega) M (Fr_rf _ _) hR⟩
theorem Dr9 {Q : Int32 → Mem → Prop} (hM : RM M 0 A) (hR : RM M 3402 A) (hV : V A) (h0 : M 85 15 = 0) (hp : 0 < np A) (hd : 0 < nd A) (hday : na A 0 5 ≤ 999) (hs : s < 2147483647) (hN : N ≤ 60) (q : ∀ M2, Fr SScr M M2 → (x = 0 → Q (nI (dst A s N).2.2) M2) ∧ (¬ x = 0 → Q (rsm (dst A s N).1 (np A)) M2)) : ∃ n14 : Nat, wL_X9_drawn_67 Q n14 M (nI N) x (lN s) 0 0 := by
  have hn := (V_np hV).2
  have hd6 := (V_nd hV).2
  have e3 : ∀ {M1}, Fr SScr M M1 → M1 86 3 = nI (np A) := fun hF => (RM0 (RM_scr hM hV hF) (j := 3) (by decide)).trans (V_np hV).1
  have e2 : ∀ {M1}, Fr SScr M M1 → M1 86 2 = nI (nd A) := fun hF => (RM0 (RM_scr hM hV hF) (j := 2) (by decide)).trans (V_nd hV).1
  have go : ∀ m k : Nat, k + m = N → ∀ M1, Fr SScr M M1 → RM M1 3402 (dst A s k).1 → wL_X9_drawn_67 Q (m + 1) M1 (nI N) x (lN (dst A s k).2.1) (nI (dst A s k).2.2) (nI k) := by
    intro m
    induction m with
    | zero =>
      intro k hk M1 hF hR1
      have hk : k = N := by omega
      subst hk
      obtain ⟨h1, h2, -⟩ := dst_ok hV hp hd hday hs k (by omega)
      refine ⟨fun _ => ?_, fun e => absurd (nI_le (Nat.le_refl _) (by omega)) e⟩
      have go2 : ∀ m i : Nat, i + m = np A → wL_X9_drawn_211 Q (m + 1) M1 x (nI (dst A s k).2.2) (rsm (dst A s k).1 i) (nI i) := by
        intro m
        induction m with
        | zero =>
          intro i hi
          have hi : i = np A := by omega
          subst hi
          exact ⟨fun _ => ⟨fun z => (q M1 hF).2 z, fun z => (q M1 hF).1 z⟩, fun e => absurd (by rw [e3 hF]; exact nI_le (Nat.le_refl _) (by omega)) e⟩
        | succ m ih =>
          intro i hi
          refine ⟨fun e => absurd e (by rw [e3 hF]; exact nI_ge (by omega) (by omega)), fun _ => ?_⟩
          rw [show 3426 + nI i = nI (3426 + i) from lin2 3426 i]
          intro v3 ev3
          have k4 : M1 86 (3426 + i) = (dst A s k).1 4 i := RM_p hR1 (f := 4) (p := i) (by omega) (by decide) (by decide)
          rw [ev3, ix_nat (by omega), k4]
          refine ⟨vp_in_nI (by omega) (by decide), fun v5 ev5 v6 ev6 => ?_⟩
          rw [ev5, ev6, nI_1]
          exact ih (i + 1) (by omega)
      exact ⟨np A + 1, go2 (np A) 0 (by omega)⟩
    | succ m ih =>
      intro k hk M1 hF hR1
      obtain ⟨h1, h2, h3, h4, h5, h6⟩ := dst_ok hV hp hd hday hs k (by omega)
      refine ⟨fun e => absurd e (nI_ge (by omega) (by omega)), fun _ v5 ev5 => ?_⟩
      have hih := ih (k + 1) (by omega)
      have hst : dst A s (k + 1) = (dB2 (dB1 (dst A s k).1 (dnx (dst A s k).2.1 % np A) (dnx (dst A s k).2.1 % nd A)) (dnx (dst A s k).2.1), dnx (dst A s k).2.1, dl1 (dst A s k).1 (dnx (dst A s k).2.1 % np A) (dnx (dst A s k).2.1 % nd A) (dst A s k).2.2) := rfl
      obtain ⟨k1, -⟩ := dst_ok hV hp hd hday hs (k + 1) (by omega)
      rw [hst] at hih k1
      generalize dst A s k = st at h1 h2 h3 h4 h5 h6 hih ev5 hR1 k1
      rw [dr_x h5] at ev5
      have hx := dnx_lt st.2.1
      have hpl : dnx st.2.1 % np A < np st.1 := by rw [h2]; exact Nat.mod_lt _ hp
      have hdl : dnx st.2.1 % nd A < nd st.1 := by rw [h3]; exact Nat.mod_lt _ hd
      have hp6 : dnx st.2.1 % np A < 6 := by omega
      rw [e3 hF, e2 hF, ev5, dr_m hx hp hn, dr_m hx hd hd6]
      refine ⟨dr_nz hp hn, fun v7 e7 => ⟨dr_nz hd hd6, fun v9 e9 => ?_⟩⟩
      rw [e7, e9, show 3426 + nI (dnx st.2.1 % np A) = nI (3426 + dnx st.2.1 % np A) from lin2 3426 _]
      intro v8 e8
      have k4 : M1 86 (3426 + dnx st.2.1 % np A) = st.1 4 (dnx st.2.1 % np A) := RM_p hR1 (f := 4) hpl (by decide) (by decide)
      rw [e8, ix_nat (by omega), k4]
      refine ⟨vp_in_nI (by omega) (by decide), W9_bh (B := 3402) hR1 (by decide) h1 hdl ?_⟩
      have fin : ∀ (M2 : Mem) (s1 : Int32), Fr SScr M M2 → V (dB1 st.1 (dnx st.2.1 % np A) (dnx st.2.1 % nd A)) → RM M2 3402 (dB1 st.1 (dnx st.2.1 % np A) (dnx st.2.1 % nd A)) → nI st.2.2 + s1 = nI (dl1 st.1 (dnx st.2.1 % np A) (dnx st.2.1 % nd A) st.2.2) → wJ_X9_drawn_169 Q (wL_X9_drawn_67 Q (m + 1)) M2 (nI N) x (lN (dnx st.2.1)) (nI k) (nI st.2.2) s1 := by
        intro M2 s1 hF2 hV2 hR2 el
        unfold wJ_X9_drawn_169
        rw [el, dr_4 hx]
        intro v1 ev1
        have k5 : M2 86 3406 = dB1 st.1 (dnx st.2.1 % np A) (dnx st.2.1 % nd A) 0 5 := hR2.1 5 (by decide)
        have hms := fun (v : Int32) => RM_ms (f := 0) (i := 5) (v := v) hR2 hV2 (Or.inr ⟨rfl, rfl⟩)
        rw [k5]
        refine ⟨fun z v3 ev3 M4 em4 v5 ev5 => ?_, fun z v6 ev6 M7 em7 v8 ev8 => ?_⟩
        · rw [ev1, ev5, nI_1]
          refine hih M4 (by rw [em4]; exact Fr_ms hF2 _ (by unfold SScr; omega)) ?_
          unfold dB2
          rw [if_neg z, em4, ev3, Int32.add_zero]
          have := hms (dB1 st.1 (dnx st.2.1 % np A) (dnx st.2.1 % nd A) 0 5)
          rw [ms_id] at this
          exact this
        · rw [ev1, ev8, nI_1]
          refine hih M7 (by rw [em7]; exact Fr_ms hF2 _ (by unfold SScr; omega)) ?_
          unfold dB2
          rw [if_pos z, em7, ev6]
          exact hms _
      have stay : ¬ dgo st.1 (dnx st.2.1 % np A) (dnx st.2.1 % nd A) → wJ_X9_drawn_168 Q (wL_X9_drawn_67 Q (m + 1)) M1 (nI N) x (lN (dnx st.2.1)) (nI k) (nI st.2.2) := by
        intro hg
        have g := dgo_f (l := st.2.2) hg
        unfold wJ_X9_drawn_168
        exact fin M1 0 hF (by rw [g.1]; exact h1) (by rw [g.1]; exact hR1) (by rw [g.2, Int32.add_zero])
      rw [bh_none h1 hdl]
      refine ⟨fun ha => ⟨fun _ => stay (fun h => ha h.1), fun e => absurd rfl e⟩, fun ha => ⟨fun e => absurd e (by decide), fun _ => ?_⟩⟩
      have ha := Classical.not_not.mp ha
      refine W9_knocks (B := 3402) hR1 (by decide) h1 ((hF 85 15 (by unfold SScr; omega)).trans h0) hpl hdl ha (fun ho => br1 ?_) (fun ho => br0 (stay (fun h => ho h.2)))
      have g := dgo_t (l := st.2.2) ⟨ha, ho⟩
      refine fin _ 1 ?_ (by rw [g.1]; exact V_pass h1 hpl hdl) (by rw [g.1]; exact RM_ps hR1 h1 hpl hdl) (by rw [g.2, nI_1])
      unfold ps9
      exact Fr_ms (Fr_ms (Fr_ms hF _ (by unfold SScr; omega)) _ (by unfold SScr; omega)) _ (by unfold SScr; omega)
  exact ⟨N + 1, go N 0 (by omega) M (Fr_rf _ _) hR⟩
end DR2
theorem S_drawn (M : Mem) (a b x : Int32) (A : Tn) (hC : RC M 41 A) (hM : RM M 0 A) (hV : V A) (h0 : M 85 15 = 0) (hday : na A 0 5 ≤ 999) : w_X8_drawn M a b x (fun r M1 => w_X9_drawn M1 a b x (fun r2 M2 => r = r2 ∧ Fr SScr M M2)) := by
  have hn := (V_np hV).2
  have m3 : M 86 3 = nI (np A) := (RM0 hM (j := 3) (by decide)).trans (V_np hV).1
  unfold w_X8_drawn
  refine T8 hC hV (fun hp hd => cr1 ?_) (fun hp => cr0 ?_)
  · have m9 : ∀ (M1 : Mem) (R : Int32 → Mem → Prop), M1 86 3 = nI (np A) → w_X9_in M1 a.toInt64 0 60 (fun r3 M2 => (r3 = 0 → R (-1000001) M2) ∧ (¬ r3 = 0 → w_X9_in M2 b.toInt64 1 999999 (fun r6 M5 => (r6 = 0 → R (-1000001) M5) ∧ (¬ r6 = 0 → w_X9_in M5 x.toInt64 0 1 (fun r9 M8 => (¬ r9 = 0 → w_X9_copyTown M8 0 3402 (fun M11 => ∀ v13 : Int64, v13 = b.toInt64 → ∃ n14 : Nat, wL_X9_drawn_67 R n14 M11 a x v13 0 0)) ∧ (r9 = 0 → R (-1000001) M8)))))) → w_X9_drawn M1 a b x R := by
      intro M1 R h3 hR
      refine ⟨fun _ => hR, fun e => ?_⟩
      rw [h3, nI_z (by omega)] at e
      omega
    rw [W8w61]
    by_cases hN : isIx a 61
    · rw [bI_t hN]
      have bad : ¬ (1 ≤ b ∧ b ≤ 999999) → w_X9_drawn M a b x (fun r2 M2 => -1000001 = r2 ∧ Fr SScr M M2) := by
        intro hb
        refine m9 M _ m3 ?_
        rw [W9i60, bI_t hN]
        refine br1 ?_
        rw [show (1 : Int64) = (1 : Int32).toInt64 from by decide, show (999999 : Int64) = (999999 : Int32).toInt64 from by decide, W9_inI, bI_f hb]
        exact br0 ⟨rfl, Fr_rf _ _⟩
      refine br1 ⟨fun z => bad (fun h => absurd z (Int32.not_lt.mpr h.1)), fun z => ⟨fun z2 => bad (fun h => absurd z2 (Int32.not_lt.mpr h.2)), fun z2 => ?_⟩⟩
      have hb : 1 ≤ b ∧ b ≤ 999999 := ⟨Int32.not_lt.mp z, Int32.not_lt.mp z2⟩
      rw [W8w2]
      by_cases hx : isIx x 2
      · rw [bI_t hx]
        refine cr1 (W6_become (by decide) (fun M12 b1 b2 => fun v14 e14 => ?_))
        have hF12 : Fr SScr M M12 := fun k j hk => b2 k j (by unfold SScr at hk; omega)
        obtain ⟨N, hN2, eN⟩ := hN
        have hpos : ¬ b < 0 := by
          intro h
          have h1 := hb.1
          rw [fa_lt] at h
          rw [fa_le] at h1
          have z0 : (0 : Int32).toInt = 0 := by decide
          have z1 : (1 : Int32).toInt = 1 := by decide
          omega
        obtain ⟨s, hs, es⟩ := nI_of hpos
        have hs2 : s ≤ 999999 := (nI_leI (b := 999999) hs (by decide)).mp (es ▸ hb.2)
        have e14' : v14 = lN s := by rw [e14, es, nI_l hs]
        rw [e14', eN]
        have fin : ∀ M1, Fr SScr M M1 → ∀ v : Int32, v = (if x = 0 then nI (dst A s N).2.2 else rsm (dst A s N).1 (np A)) → w_X9_drawn M1 a b x (fun r2 M2 => v = r2 ∧ Fr SScr M M2) := by
          intro M1 hF1 v hv
          have hM1 := RM_scr hM hV hF1
          refine m9 M1 _ ((RM0 hM1 (j := 3) (by decide)).trans (V_np hV).1) ?_
          rw [W9i60, bI_t ⟨N, hN2, eN⟩]
          refine br1 ?_
          rw [show (1 : Int64) = (1 : Int32).toInt64 from by decide, show (999999 : Int64) = (999999 : Int32).toInt64 from by decide, W9_inI, bI_t hb]
          refine br1 ?_
          show w_X9_in M1 x.toInt64 0 1 _
          rw [W9i1, bI_t hx]
          refine cr1 (W9_copyTown (a := 0) (b := 3402) (by omega) (by omega) (by omega) (fun v13 e13 => ?_))
          rw [e13, es, nI_l hs, eN]
          have hFc : Fr SScr M1 (cpT M1 0 3402 126) := fun k j hk => by
            rw [cpT_app, if_neg (by unfold SScr at hk; omega)]
          have hMc : RM (cpT M1 0 3402 126) 3402 A := RM_mv hM1 hV (fun k hk => by
            rw [cpT_app, if_pos (by omega)]
            exact congrArg (M1 86) (by omega))
          refine Dr9 (RM_scr hM1 hV hFc) hMc hV ?_ hp hd hday (by omega) (by omega) (fun M2 hF2 => ⟨fun w => ⟨?_, Fr_tr hF1 (Fr_tr hFc hF2)⟩, fun w => ⟨?_, Fr_tr hF1 (Fr_tr hFc hF2)⟩⟩)
          · rw [hFc _ _ (by unfold SScr; omega), hF1 _ _ (by unfold SScr; omega)]; exact h0
          · rw [hv, if_pos w]
          · rw [hv, if_neg w]
        rw [eN] at fin
        refine Dr8 (RC_fr hC (fun f j hf => b2 _ _ (by omega))) (RC_bec hC hV b1) hV hp hd hday (show s < 2147483647 by omega) (show N ≤ 60 by omega) (fun M2 hF2 => ⟨fun w => ?_, fun w => ?_⟩)
        · exact fin M2 (Fr_tr hF12 hF2) _ (by rw [if_pos w])
        · exact fin M2 (Fr_tr hF12 hF2) _ (by rw [if_neg w])
      · rw [bI_f hx]
        refine cr0 (m9 M _ m3 ?_)
        rw [W9i60, bI_t hN]
        refine br1 ?_
        rw [show (1 : Int64) = (1 : Int32).toInt64 from by decide, show (999999 : Int64) = (999999 : Int32).toInt64 from by decide, W9_inI, bI_t hb]
        refine br1 ?_
        show w_X9_in M x.toInt64 0 1 _
        rw [W9i1, bI_f hx]
        exact cr0 ⟨rfl, Fr_rf _ _⟩
    · rw [bI_f hN]
      refine br0 (m9 M _ m3 ?_)
      rw [W9i60, bI_f hN]
      exact br0 ⟨rfl, Fr_rf _ _⟩
  · unfold w_X9_drawn
    show _ ∧ _
    rw [m3, nI_z (by omega)]
    exact ⟨fun z => absurd hp z, fun _ => ⟨rfl, Fr_rf _ _⟩⟩
