theorem EL_take {M : Mem} {A : Tn} {c : Nat} (hV : V A) (h : TKi M A c (nd A)) : EL M (oc A c (nd A)) (Ew A c N0) := by
  have hd6 := (V_nd hV).2
  have hle : oc A c (nd A) ≤ nd A := fb_ct_le _ _
  refine ⟨by omega, h.1, fun k hk => ?_, fun y x hE => ?_⟩
  · obtain ⟨d, hd, ho, e⟩ := fb_ct_kth hk
    have ho := cb_t.mp ho
    obtain ⟨g1, g2, g3⟩ := h.2 d hd ho
    have e : oc A c d = k := e
    rw [e] at g1 g2
    obtain ⟨e1, e2, l1, l2⟩ := ends6 hV hd
    exact ⟨na A 1 d, na A 2 d, l1, l2, g1.trans e1, g2.trans e2, l1, l2, Or.inl ⟨d, hd, ho, Or.inl ⟨rfl, rfl⟩⟩⟩
  · obtain ⟨h1, h2, ⟨d, hd, ho, hh⟩ | hN⟩ := hE
    · obtain ⟨g1, g2, g3⟩ := h.2 d hd ho
      obtain ⟨e1, e2, l1, l2⟩ := ends6 hV hd
      refine ⟨oc A c d, oc_lt hd ho, ?_⟩
      rw [g1, g2, e1, e2]
      rcases hh with ⟨q1, q2⟩ | ⟨q1, q2⟩
      · exact Or.inl ⟨by rw [q1], by rw [q2]⟩
      · exact Or.inr ⟨by rw [q1], by rw [q2]⟩
    · exact absurd hN (fun z => z)
theorem V_room {A : Tn} (hV : V A) {p : Nat} (hp : p < np A) : A 4 p = nI (na A 4 p) ∧ na A 4 p < 6 := by
  obtain ⟨-, -, -, h1, h2, -⟩ := hV.2.2.1 p hp
  have := (V_nr hV).2
  exact ⟨h1, by omega⟩
/-- DOORS of the ROOM own behind which it is one less far -/
def PD (A : Tn) (own : Nat) (g : Nat → Int32) (d : Nat) : Prop := (na A 1 d = own ∧ g (na A 2 d) = g own - 1) ∨ (na A 2 d = own ∧ g (na A 1 d) = g own - 1)
def FDr (A : Tn) (c own : Nat) (g : Nat → Int32) (r : Int32) : Prop := (∃ d, d < nd A ∧ Op A c d allA ∧ PD A own g d ∧ (∀ e, e < d → Op A c e allA → ¬ PD A own g e) ∧ r = nI d) ∨ ((∀ d, d < nd A → Op A c d allA → ¬ PD A own g d) ∧ r = -1000000)
theorem FDr_one {A : Tn} {c own : Nat} {g : Nat → Int32} {r r2 : Int32} (h : FDr A c own g r) (h2 : FDr A c own g r2) : r = r2 := by
  rcases h with ⟨d, a1, a2, a3, a4, a5⟩ | ⟨a1, a2⟩
  · rcases h2 with ⟨e, b1, b2, b3, b4, b5⟩ | ⟨b1, b2⟩
    · have : d = e := by
        rcases Nat.lt_trichotomy d e with z | z | z
        · exact absurd a3 (b4 d z a2)
        · exact z
        · exact absurd b3 (a4 e z b2)
      rw [a5, b5, this]
    · exact absurd a3 (b1 d a1 a2)
  · rcases h2 with ⟨e, b1, b2, b3, b4, b5⟩ | ⟨b1, b2⟩
    · exact absurd b3 (a1 e b1 b2)
    · rw [a2, b2]
theorem W7_first {M : Mem} {A : Tn} {c own : Nat} {g : Nat → Int32} {Q : Int32 → Mem → Prop} (hV : V A) (hT : TKi M A c (nd A)) (h36 : ∀ x, x < 6 → M 36 x = g x) (ho6 : own < 6) (q : ∀ r, FDr A c own g r → Q r M) : w_X7_firstDoorFrom M (nI own) Q := by
  have hd6 := (V_nd hV).2
  have hle : oc A c (nd A) ≤ nd A := fb_ct_le _ _
  have go : ∀ m k : Nat, k + m = oc A c (nd A) → (∀ d, d < nd A → Op A c d allA → oc A c d < k → ¬ PD A own g d) → wL_X7_firstDoorFrom_11 Q (m + 1) M (nI own) (g own - 1) (nI k) := by
    intro m
    induction m with
    | zero =>
      intro k hk hn
      have hk : k = oc A c (nd A) := by omega
      subst hk
      refine ⟨fun _ => q _ (Or.inr ⟨fun d hd ho => hn d hd ho (oc_lt hd ho), rfl⟩), fun e => absurd (by rw [hT.1]; exact nI_le (Nat.le_refl _) (by omega)) e⟩
    | succ m ih =>
      intro k hk hn
      refine ⟨fun e => absurd e (by rw [hT.1]; exact nI_ge (by omega) (by omega)), fun _ => ?_⟩
      obtain ⟨d, hd, ho, e⟩ := fb_ct_kth (p := ob A c) (k := k) (n := nd A) (show k < oc A c (nd A) by omega)
      have ho2 := cb_t.mp ho
      have e : oc A c d = k := e
      obtain ⟨g1, g2, g3⟩ := hT.2 d hd ho2
      rw [e] at g1 g2 g3
      obtain ⟨e1, e2, l1, l2⟩ := ends6 hV hd
      have hin : vp_in (nI k) 7 := vp_in_nI (by omega) (by decide)
      have fin1 : PD A own g d → Q (M 35 k) M := by
        intro hp
        rw [g3]
        refine q _ (Or.inl ⟨d, hd, ho2, hp, fun d' hd' hod => hn d' (by omega) hod ?_, rfl⟩)
        have := oc_lt hd' hod
        omega
      have fin0 : ¬ PD A own g d → wL_X7_firstDoorFrom_11 Q (m + 1) M (nI own) (g own - 1) (nI (k + 1)) := by
        intro hp
        refine ih (k + 1) (by omega) (fun d' hd' hod hlt => ?_)
        by_cases e2 : oc A c d' = k
        · have : d' = d := fb_ct_kth_one (p := ob A c) (cb_t.mpr hod) ho (e2.trans e.symm)
          rw [this]; exact hp
        · exact hn d' hd' hod (by omega)
      have j81 : ∀ x4 s0 : Int32, (PD A own g d → ¬ x4 = 0 ∨ ¬ s0 = 0) → ((¬ x4 = 0 ∨ ¬ s0 = 0) → PD A own g d) → wJ_X7_firstDoorFrom_81 Q (wL_X7_firstDoorFrom_11 Q (m + 1)) M (nI own) (g own - 1) (nI k) x4 s0 := by
        intro x4 s0 h1 h2
        unfold wJ_X7_firstDoorFrom_81
        rw [ix_nat (by omega)]
        refine ⟨fun z => ⟨hin, fin1 (h2 (Or.inl z))⟩, fun z => ⟨fun z2 v4 e4 => ?_, fun z2 => ⟨hin, fin1 (h2 (Or.inr z2))⟩⟩⟩
        rw [e4, nI_1]
        exact fin0 (fun hp => (h1 hp).elim (fun y => y z) (fun y => y z2))
      have nIe : ∀ x, x < 6 → (nI x = nI own ↔ x = own) := fun x hx => nI_eq (by omega) (by omega)
      have j49 : ∀ s0 : Int32, ((¬ s0 = 0) ↔ (na A 1 d = own ∧ g (na A 2 d) = g own - 1)) → wJ_X7_firstDoorFrom_49 Q (wL_X7_firstDoorFrom_11 Q (m + 1)) M (nI own) (g own - 1) (nI k) s0 := by
        intro s0 hs
        unfold wJ_X7_firstDoorFrom_49 wJ_X7_firstDoorFrom_80
        rw [ix_nat (by omega), g2, g1, e1, e2, nIe _ l2]
        refine ⟨hin, fun z => j81 _ _ ?_ ?_, fun z => ⟨hin, fun v4 e4 => ?_⟩⟩
        · rintro (h | h)
          · exact Or.inl (hs.mpr h)
          · exact absurd h.1 z
        · rintro (h | h)
          · exact Or.inl (hs.mp h)
          · exact absurd rfl h
        · rw [e4, ix_nat (by omega), h36 _ l1]
          refine ⟨vp_in_nI l1 (by decide), fun z2 => j81 _ _ ?_ ?_, fun z2 => j81 _ _ ?_ ?_⟩
          · rintro (h | h)
            · exact Or.inl (hs.mpr h)
            · exact absurd h.2 z2
          · rintro (h | h)
            · exact Or.inl (hs.mp h)
            · exact absurd rfl h
          · intro _; exact Or.inr (by decide)
          · intro _; exact Or.inr ⟨z, z2⟩
      rw [ix_nat (by omega), g1, g2, e1, e2, nIe _ l1]
      refine ⟨hin, fun z => j49 0 ⟨fun h => absurd rfl h, fun h => absurd h.1 z⟩, fun z => ⟨hin, fun v5 e5 => ?_⟩⟩
      rw [e5, ix_nat (by omega), h36 _ l2]
      exact ⟨vp_in_nI l2 (by decide), fun z2 => j49 0 ⟨fun h => absurd rfl h, fun h => absurd h.2 z2⟩, fun z2 => j49 1 ⟨fun _ => ⟨z, z2⟩, fun _ => by decide⟩⟩
  unfold w_X7_firstDoorFrom
  rw [ix_nat (by omega), h36 _ ho6]
  refine ⟨vp_in_nI ho6 (by decide), fun v2 e2 => ⟨oc A c (nd A) + 1, ?_⟩⟩
  rw [e2]
  exact go _ 0 (by omega) (fun d _ _ h => absurd h (by omega))
theorem fd_m1 {E : Nat → Nat → Prop} {r x y : Nat} (h : fd E r x = 0 ∨ fd E r x = -1000000) : ¬ fd E r y = fd E r x - 1 := by
  intro e
  rcases fd_rng E r y with ⟨n, h1, h2⟩ | h2
  · rw [h2] at e
    have hk : ∀ n, n ≤ 5 → ¬ nI n = (0 : Int32) - 1 ∧ ¬ nI n = (-1000000 : Int32) - 1 := by decide
    rcases h with h | h <;> rw [h] at e
    · exact (hk n h1).1 e
    · exact (hk n h1).2 e
  · rw [h2] at e
    rcases h with h | h <;> rw [h] at e <;> exact absurd e (by decide)
/-- the reference's first DOOR -/
theorem W9_first {M : Mem} {A : Tn} {c own room : Nat} {Q : Int32 → Mem → Prop} (hA : RM M 0 A) (hV : V A) (hL : LO M A c N0) (ho6 : own < 6) (hr6 : room < 6) (hne : ¬ fd (Ew A c N0) room own = -1000000) (q : ∀ r, FDr A c own (fd (Ew A c N0) room) r → Q r M) : ∃ n19 : Nat, wL_X9_way_71 Q n19 M (nI room) (nI own) (fd (Ew A c N0) room own) 0 := by
  have hd6 := (V_nd hV).2
  have e2 : M 86 2 = nI (nd A) := (RM0 hA (j := 2) (by decide)).trans (V_nd hV).1
  have hm : msk (ob A c) (nd A) < 64 := by
    have h1 := msk_lt (ob A c) (nd A)
    have h2 : 2 ^ nd A ≤ 2 ^ 6 := Nat.pow_le_pow_right (by decide) hd6
    omega
  have go : ∀ m d : Nat, d + m = nd A → (∀ e, e < d → Op A c e allA → ¬ PD A own (fd (Ew A c N0) room) e) → wL_X9_way_71 Q (m + 1) M (nI room) (nI own) (fd (Ew A c N0) room own) (nI d) := by
    intro m
    induction m with
    | zero =>
      intro d hd hn
      have hd : d = nd A := by omega
      subst hd
      exact ⟨fun _ => q _ (Or.inr ⟨hn, rfl⟩), fun e => absurd (by rw [e2]; exact nI_le (Nat.le_refl _) (by omega)) e⟩
    | succ m ih =>
      intro d hd hn
      refine ⟨fun e => absurd e (by rw [e2]; exact nI_ge (by omega) (by omega)), fun _ => ⟨fun z => ?_, fun z => ?_⟩⟩
      · have h0 : fd (Ew A c N0) room own = 0 := by
          rcases fd_rng (Ew A c N0) room own with ⟨n, h1, h2⟩ | h2
          · rw [h2] at z ⊢
            rw [(nI_le0 (by omega)).mp z]; rfl
          · exact absurd h2 hne
        refine q _ (Or.inr ⟨fun d' _ _ hp => ?_, rfl⟩)
        rcases hp with hp | hp <;> exact fd_m1 (Or.inl h0) hp.2
      · obtain ⟨e1, e2', l1, l2⟩ := ends6 hV (show d < nd A by omega)
        have hne2 : na A 1 d ≠ na A 2 d := (hV.2.1 d (by omega)).2.2.2.2
        have hbit : (msk (ob A c) (nd A)).testBit d = ob A c d := by
          rw [msk_bit, decide_eq_true (show d < nd A by omega), Bool.true_and]
        have goon : (Op A c d allA → ¬ PD A own (fd (Ew A c N0) room) d) → wL_X9_way_71 Q (m + 1) M (nI room) (nI own) (fd (Ew A c N0) room own) (nI (d + 1)) := by
          intro h
          refine ih (d + 1) (by omega) (fun e he hoe => ?_)
          by_cases ee : e = d
          · subst ee; exact h hoe
          · exact hn e (by omega) hoe
        rw [hL.1]
        refine W9_hasN hm (by omega) (fun hb => br1 ?_) (fun hb => br0 ?_)
        · rw [hbit] at hb
          have hop := cb_t.mp hb
          have nIe : ∀ x, x < 6 → (nI x = nI own ↔ x = own) := fun x hx => nI_eq (by omega) (by omega)
          refine W9_bh (B := 0) hA (by decide) hV (show d < nd A by omega) ?_
          have nx : ∀ y, y < 6 → ((fd (Ew A c N0) room y = fd (Ew A c N0) room own - 1) ↔ PD A own (fd (Ew A c N0) room) d) → wJ_X9_way_113 Q (wL_X9_way_71 Q (m + 1)) M (nI room) (nI own) (fd (Ew A c N0) room own) (nI d) (nI y) := by
            intro y hy hiff
            unfold wJ_X9_way_113
            refine ⟨fun e => absurd e (nI_none (by omega)), fun _ => W9_far hA hV hL hy hr6 ?_⟩
            rw [fd_sym (Ew_sym N0_sym) y room]
            refine ⟨fun z v6 e6 => ?_, fun z => q _ (Or.inl ⟨d, by omega, hop, hiff.mp z, hn, rfl⟩)⟩
            rw [e6, nI_1]
            exact goon (fun _ hp => z (hiff.mpr hp))
          unfold bh
          rw [e1, e2']
          by_cases z1 : na A 1 d = own
          · rw [if_pos ((nIe _ l1).mpr z1)]
            refine nx _ l2 ⟨fun h => Or.inl ⟨z1, h⟩, fun h => h.elim (fun h => h.2) (fun h => absurd (z1.trans h.1.symm) hne2)⟩
          · rw [if_neg (fun e => z1 ((nIe _ l1).mp e))]
            by_cases z2 : na A 2 d = own
            · rw [if_pos ((nIe _ l2).mpr z2)]
              refine nx _ l1 ⟨fun h => Or.inr ⟨z2, h⟩, fun h => h.elim (fun h => absurd h.1 z1) (fun h => h.2)⟩
            · rw [if_neg (fun e => z2 ((nIe _ l2).mp e))]
              unfold wJ_X9_way_113
              refine ⟨fun _ v2 ev2 => ?_, fun e => absurd rfl e⟩
              rw [ev2, nI_1]
              exact goon (fun _ hp => hp.elim (fun h => z1 h.1) (fun h => z2 h.1))
        · rw [hbit] at hb
          unfold wJ_X9_way_113
          refine ⟨fun _ v2 ev2 => ?_, fun e => absurd rfl e⟩
          rw [ev2, nI_1]
          exact goon (fun ho => absurd (cb_t.mpr ho) hb)
  exact ⟨nd A + 1, go (nd A) 0 (by omega) (fun e he => absurd he (by omega))⟩
section SWY
variable {M : Mem} {A : Tn}
theorem LO_lay {M2 : Mem} {c : Nat} (h16 : M2 85 16 = nI (msk (ob A c) (nd A))) (h17 : M2 85 17 = -1000000) : LO M2 A c N0 := ⟨h16, Or.inl ⟨h17, rfl⟩⟩
theorem RM_SW {M M2 : Mem} {A : Tn} {B : Nat} (h : RM M B A) (hV : V A) (hf : Fr SW M M2) : RM M2 B A := RM_86 h hV (fun i => hf _ _ (by unfold SW; omega))
theorem SW36 {M M2 M3 : Mem} (hf : Fr SW M M2) (h : ∀ k j, k ≠ 36 → M3 k j = M2 k j) : Fr SW M M3 := fun k j hs => (h k j (by unfold SW at hs; omega)).trans (hf k j hs)
theorem TK36 {M2 M3 : Mem} {c i : Nat} (hT : TKi M2 A c i) (h : ∀ k j, k ≠ 36 → M3 k j = M2 k j) : TKi M3 A c i := by
  unfold TKi at hT ⊢
  rw [h 32 4 (by decide)]
  refine ⟨hT.1, fun d hd ho => ?_⟩
  rw [h 33 _ (by decide), h 34 _ (by decide), h 35 _ (by decide)]
  exact hT.2 d hd ho
theorem S_way (M : Mem) (a b x : Int32) (A : Tn) (hC : RC M 41 A) (hM : RM M 0 A) (hV : V A) (h0 : M 85 15 = 0) : w_X8_way M a b x (fun r M1 => w_X9_way M1 a b x (fun r2 M2 => r = r2 ∧ Fr SScr M M2)) := by
  have hn := (V_np hV).2
  have hr := (V_nr hV).2
  unfold w_X8_way
  refine P8 hC hV (fun p hp ep => br1 (R8 hC hV (fun rm hrm er => br1 ?_) (fun hne => br0 ?_))) (fun hne => br0 ?_)
  · subst ep er
    obtain ⟨e4, l4⟩ := V_room hV hp
    rw [show (2 : Int32) = nI 2 from rfl, W8_ix (by decide)]
    by_cases hx : isIx x 2
    · rw [bI_t hx]
      refine cr1 (W7_take hC hV hp (fun M10 hF hT => W7_measure (EL_take hV hT) (Ew_sym N0_sym) Ew_lt (show rm < 6 by omega) (fun M12 h36 ho => ⟨vp_in_nI (by omega) (by decide), fun v15 e15 => ?_⟩)))
      have hF12 := SW36 hF ho
      rw [ix_nat (by omega), (RC_SW hC hF12).2 4 p (rel_p (by decide) (by decide) hp), e4] at e15
      have m9 : ∀ (R : Int32 → Mem → Prop), (∀ M3, Fr SScr M M3 → (x = 0 → R (fd (Ew A p N0) rm (na A 4 p)) M3) ∧ (¬ x = 0 → ∀ r, FDr A p (na A 4 p) (fd (Ew A p N0) rm) r → R r M3)) → w_X9_way M12 (nI p) (nI rm) x R := by
        intro R hR
        have hM12 := RM_SW hM hV hF12
        unfold w_X9_way
        refine P9 hM12 hV (fun p2 hp2 e => br1 (R9 hM12 hV (fun r2 hr2 e2 => br1 ?_) (fun h => absurd ⟨rm, hrm, rfl⟩ h))) (fun h => absurd ⟨p, hp, rfl⟩ h)
        rw [W9_ix (n := 2) (by decide) (by decide) (by decide), bI_t hx]
        refine cr1 (W9_layOpen hM12 hV ((hF12 85 15 (by unfold SW; omega)).trans h0) hp (fun M3 hF3 h16 h17 => ?_))
        have hM3 := RM_S85 hM12 hV hF3
        have hL := LO_lay h16 h17
        have hR3 := hR M3 (Fr_tr (Fr_mono hF12 (fun k j h => SW_scr h)) (Fr_mono hF3 (fun k j h => S85_scr h)))
        have k4 : M3 86 (24 + p) = A 4 p := RM0p hM3 hp (f := 4) (by decide) (by decide)
        rw [show 24 + nI p = nI (24 + p) from lin2 24 p]
        intro v12 e12
        rw [e12, ix_nat (by omega), k4, e4]
        refine ⟨vp_in_nI (by omega) (by decide), fun v14 e14 => ?_⟩
        rw [e14]
        refine W9_far hM3 hV hL l4 (by omega) ?_
        rw [fd_sym (Ew_sym N0_sym) (na A 4 p) rm]
        refine ⟨fun z => hR3.1 z, fun z => ⟨fun z2 => W9_first hM3 hV hL l4 (by omega) z2 (hR3.2 z), fun z2 => ?_⟩⟩
        refine hR3.2 z _ (Or.inr ⟨fun d _ _ hp => ?_, z2⟩)
        rcases hp with hp | hp <;> exact fd_m1 (Or.inr z2) hp.2
      refine ⟨fun z => ?_, fun z => ⟨by rw [e15]; exact vp_in_nI l4 (by decide), ?_⟩⟩
      · rw [e15]
        exact W7_first hV (TK36 hT ho) h36 l4 (fun r hr => m9 _ (fun M3 hF3 => ⟨fun y => absurd y z, fun _ r2 hr2 => ⟨FDr_one hr hr2, hF3⟩⟩))
      · rw [e15, ix_nat (by omega), h36 _ l4]
        exact m9 _ (fun M3 hF3 => ⟨fun _ => ⟨rfl, hF3⟩, fun y => absurd z y⟩)
    · rw [bI_f hx]
      refine cr0 ?_
      unfold w_X9_way
      refine P9 hM hV (fun p2 hp2 e => br1 (R9 hM hV (fun r2 hr2 e2 => br1 ?_) (fun h => absurd ⟨rm, hrm, rfl⟩ h))) (fun h => absurd ⟨p, hp, rfl⟩ h)
      rw [W9_ix (n := 2) (by decide) (by decide) (by decide), bI_f hx]
      exact cr0 ⟨rfl, Fr_rf _ _⟩
  · unfold w_X9_way
    exact P9 hM hV (fun p2 hp2 e => br1 (R9 hM hV (fun r2 hr2 e2 => absurd ⟨r2, hr2, e2⟩ hne) (fun h => br0 ⟨rfl, Fr_rf _ _⟩))) (fun h => absurd ⟨p, hp, ep⟩ h)
  · unfold w_X9_way
    exact P9 hM hV (fun p2 hp2 e => absurd ⟨p2, hp2, e⟩ hne) (fun h => br0 ⟨rfl, Fr_rf _ _⟩)
/-- the ROOMS that c reaches -/
noncomputable def rcm (A : Tn) (c : Nat) : Nat := msk (fun x => cb (Dn (Ew A c N0) 5 (na A 4 c) x)) 6
theorem W8_reached {c : Nat} {Q : Int32 → Mem → Prop} (hC : RC M 41 A) (hV : V A) (hc : c < np A) (q : ∀ M2, Fr SW M M2 → Q (nI (rcm A c)) M2) : w_X8_roomsReached M (nI c) Q := by
  have hn := (V_np hV).2
  obtain ⟨e4, l4⟩ := V_room hV hc
  unfold w_X8_roomsReached
  refine W7_take hC hV hc (fun M10 hF hT => ⟨vp_in_nI (by omega) (by decide), ?_⟩)
  rw [ix_nat (by omega), (RC_SW hC hF).2 4 c (rel_p (by decide) (by decide) hc), e4]
  refine W7_measure (EL_take hV hT) (Ew_sym N0_sym) Ew_lt l4 (fun M12 h36 ho => ?_)
  refine W7_rooms (p := fun x => cb (Dn (Ew A c N0) 5 (na A 4 c) x)) (fun x hx => ?_) (q M12 (SW36 hF ho))
  rw [cb_t, h36 x hx, fd_none, Classical.not_not]
theorem W9_reached {c : Nat} {Q : Int32 → Mem → Prop} (hM : RM M 0 A) (hV : V A) (h0 : M 85 15 = 0) (hc : c < np A) (q : ∀ M2, Fr S85 M M2 → Q (nI (rcm A c)) M2) : w_X9_reachOf M (nI c) Q := by
  have hn := (V_np hV).2
  obtain ⟨e4, l4⟩ := V_room hV hc
  unfold w_X9_reachOf
  refine W9_layOpen hM hV h0 hc (fun M3 hF3 h16 h17 => ?_)
  have hM3 := RM_S85 hM hV hF3
  have k4 : M3 86 (24 + c) = A 4 c := RM0p hM3 hc (f := 4) (by decide) (by decide)
  rw [show 24 + nI c = nI (24 + c) from lin2 24 c]
  intro v3 e3
  rw [e3, ix_nat (by omega), k4, e4, shl6 _ l4]
  refine ⟨vp_in_nI (by omega) (by decide), fun v5 e5 => ?_⟩
  rw [e5]
  exact W9_reachN hM3 hV (LO_lay h16 h17) l4 (q M3 hF3)
theorem S_reach (M : Mem) (a : Int32) (A : Tn) (hC : RC M 41 A) (hM : RM M 0 A) (hV : V A) (h0 : M 85 15 = 0) : w_X8_reach M a (fun r M1 => w_X9_reach M1 a (fun r2 M2 => r = r2 ∧ Fr SScr M M2)) := by
  unfold w_X8_reach
  refine P8 hC hV (fun p hp ep => br1 ?_) (fun hne => br0 ?_)
  · subst ep
    refine W8_reached hC hV hp (fun M2 hF => ?_)
    have hM2 := RM_SW hM hV hF
    unfold w_X9_reach
    refine P9 hM2 hV (fun p2 hp2 e => br1 (W9_reached hM2 hV ((hF 85 15 (by unfold SW; omega)).trans h0) hp (fun M3 hF3 => ⟨rfl, Fr_tr (Fr_mono hF (fun k j h => SW_scr h)) (Fr_mono hF3 (fun k j h => S85_scr h))⟩))) (fun h => absurd ⟨p, hp, rfl⟩ h)
  · unfold w_X9_reach
    exact P9 hM hV (fun p2 hp2 e => absurd ⟨p2, hp2, e⟩ hne) (fun h => br0 ⟨rfl, Fr_rf _ _⟩)
theorem rcm_lt (A : Tn) (c : Nat) : rcm A c < 64 := msk_lt _ 6
theorem S_locked (M : Mem) (A : Tn) (hC : RC M 41 A) (hM : RM M 0 A) (hV : V A) (h0 : M 85 15 = 0) : w_X8_locked M (fun r M1 => w_X9_locked M1 (fun r2 M2 => r = r2 ∧ Fr SScr M M2)) := by
  have hn := (V_np hV).2
  have c3 : M 41 3 = nI (np A) := (hC.1 3 (by decide)).trans (V_np hV).1
  have m3 : M 86 3 = nI (np A) := (RM0 hM (j := 3) (by decide)).trans (V_np hV).1
  unfold w_X8_locked
  refine T8 hC hV (fun hp hd => cr1 ?_) (fun hp => cr0 ?_)
  · have key : ∀ (Q : Int32 → Mem → Prop), (∀ M2, Fr SW M M2 → Q (nI (msk (fun k => decide (rcm A k = 2 ^ na A 4 k)) (np A))) M2) → ∃ n4 : Nat, wL_X8_locked_14 Q n4 M 0 0 := by
      intro Q q
      have go : ∀ m i : Nat, i + m = np A → ∀ M1, Fr SW M M1 → wL_X8_locked_14 Q (m + 1) M1 (nI (msk (fun k => decide (rcm A k = 2 ^ na A 4 k)) i)) (nI i) := by
        intro m
        induction m with
        | zero =>
          intro i hi M1 hF
          have hi : i = np A := by omega
          subst hi
          exact ⟨fun _ => q M1 hF, fun e => absurd (by rw [hF 41 3 (by unfold SW; omega), c3]; exact nI_le (Nat.le_refl _) (by omega)) e⟩
        | succ m ih =>
          intro i hi M1 hF
          refine ⟨fun e => absurd e (by rw [hF 41 3 (by unfold SW; omega), c3]; exact nI_ge (by omega) (by omega)), fun _ => ?_⟩
          refine W8_reached (RC_SW hC hF) hV (show i < np A by omega) (fun M2 hF2 => ⟨vp_in_nI (by omega) (by decide), ?_⟩)
          have hF2 := Fr_tr hF hF2
          obtain ⟨e4, l4⟩ := V_room hV (show i < np A by omega)
          have hh := ih (i + 1) (by omega) M2 hF2
          rw [msk_s] at hh
          have l2 : 2 ^ na A 4 i < 64 := show 2 ^ na A 4 i < 2 ^ 6 from Nat.pow_lt_pow_right (by decide) l4
          have := rcm_lt A i
          rw [ix_nat (by omega), (RC_SW hC hF2).2 4 i (rel_p (by decide) (by decide) (by omega)), e4, shl6 _ l4, nI_eq (by omega) (by omega)]
          refine ⟨fun z v6 e6 => ?_, fun z v7 e7 v8 e8 => ?_⟩
          · rw [if_neg (fun e => z (of_decide_eq_true e)), Nat.or_zero] at hh
            rw [e6, nI_1]; exact hh
          · rw [if_pos (decide_eq_true z)] at hh
            rw [e8, nI_1, e7, or_pow (by omega)]; exact hh
      exact ⟨np A + 1, go (np A) 0 (by omega) M (Fr_rf _ _)⟩
    refine key _ (fun M2 hF => ?_)
    have hM2 := RM_SW hM hV hF
    have m32 : M2 86 3 = nI (np A) := (RM0 hM2 (j := 3) (by decide)).trans (V_np hV).1
    have h02 := (hF 85 15 (by unfold SW; omega)).trans h0
    unfold w_X9_locked
    show _ ∧ _
    rw [m32, nI_z (by omega)]
    refine ⟨fun _ => ?_, fun z => absurd z (by omega)⟩
    have go : ∀ m i : Nat, i + m = np A → ∀ M1, Fr S85 M2 M1 → wL_X9_locked_16 (fun r2 M3 => nI (msk (fun k => decide (rcm A k = 2 ^ na A 4 k)) (np A)) = r2 ∧ Fr SScr M M3) (m + 1) M1 (nI (msk (fun k => decide (rcm A k = 2 ^ na A 4 k)) i)) (nI i) := by
      intro m
      induction m with
      | zero =>
        intro i hi M1 hF1
        have hi : i = np A := by omega
        subst hi
        exact ⟨fun _ => ⟨rfl, Fr_tr (Fr_mono hF (fun k j h => SW_scr h)) (Fr_mono hF1 (fun k j h => S85_scr h))⟩, fun e => absurd (by rw [hF1 86 3 (by unfold S85; omega), m32]; exact nI_le (Nat.le_refl _) (by omega)) e⟩
      | succ m ih =>
        intro i hi M1 hF1
        refine ⟨fun e => absurd e (by rw [hF1 86 3 (by unfold S85; omega), m32]; exact nI_ge (by omega) (by omega)), fun _ => ?_⟩
        refine W9_reached (RM_S85 hM2 hV hF1) hV ((hF1 85 15 (by unfold S85; omega)).trans h02) (show i < np A by omega) (fun M4 hF4 => W9_bits (rcm_lt A i) ?_)
        have hF4 := Fr_tr hF1 hF4
        obtain ⟨e4, l4⟩ := V_room hV (show i < np A by omega)
        have hh := ih (i + 1) (by omega) M4 hF4
        rw [msk_s] at hh
        have hbit : (rcm A i).testBit (na A 4 i) = true := by
          unfold rcm
          rw [msk_bit, decide_eq_true l4, Bool.true_and, cb_t]
          exact Dn_mono (Nat.zero_le _) (Dn_0.mpr rfl)
        have hone := one_bit _ (rcm_lt A i) _ l4 hbit
        have hcl := fb_ct_le (fun k => (rcm A i).testBit k) 6
        have e1 : (nI (fb_ct (fun k => (rcm A i).testBit k) 6) = 1) ↔ rcm A i = 2 ^ na A 4 i := by
          rw [hone]
          exact nI_eq (b := 1) (by omega) (by decide)
        rw [e1]
        refine ⟨fun z v7 e7 v8 e8 => ?_, fun z v9 e9 v10 e10 => ?_⟩
        · rw [if_neg (fun e => z (of_decide_eq_true e)), Nat.or_zero] at hh
          rw [e8, nI_1, e7, Int32.or_zero]; exact hh
        · rw [if_pos (decide_eq_true z)] at hh
          rw [e10, nI_1, e9, or_pow (by omega)]; exact hh
    exact ⟨np A + 1, go (np A) 0 (by omega) M2 (Fr_rf _ _)⟩
  · unfold w_X9_locked
    show _ ∧ _
    rw [m3, nI_z (by omega)]
    exact ⟨fun z => absurd hp z, fun _ => ⟨rfl, Fr_rf _ _⟩⟩
end SWY
