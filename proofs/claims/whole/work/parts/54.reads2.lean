section WO
variable {M : Mem} {T : Nat} {A : Tn} {p d c : Nat} {Q : Int32 → Mem → Prop}
theorem sel_eq {side : Int32} {v : Int} (hs : side = 1 ∨ side = -1) (hv : v = 1 ∨ v = -1 ∨ v = 0) : (Int32.ofInt v = side) ↔ sel side v := by
  rcases hs with rfl | rfl
  · rcases hv with rfl | rfl | rfl
    · exact ⟨fun _ => Or.inr (Or.inl ⟨rfl, rfl⟩), fun _ => by decide⟩
    · refine ⟨fun e => absurd e (by decide), ?_⟩
      rintro (h | h | h)
      · exact absurd h (by decide)
      · exact absurd h.2 (by decide)
      · exact absurd h.1 (by decide)
    · refine ⟨fun e => absurd e (by decide), ?_⟩
      rintro (h | h | h)
      · exact absurd h (by decide)
      · exact absurd h.2 (by decide)
      · exact absurd h.1 (by decide)
  · rcases hv with rfl | rfl | rfl
    · refine ⟨fun e => absurd e (by decide), ?_⟩
      rintro (h | h | h)
      · exact absurd h (by decide)
      · exact absurd h.1 (by decide)
      · exact absurd h.2 (by decide)
    · exact ⟨fun _ => Or.inr (Or.inr ⟨rfl, rfl⟩), fun _ => by decide⟩
    · refine ⟨fun e => absurd e (by decide), ?_⟩
      rintro (h | h | h)
      · exact absurd h (by decide)
      · exact absurd h.1 (by decide)
      · exact absurd h.2 (by decide)
theorem W2_wof {side : Int32} {n : Nat} {w : Nat → Nat} {v : Nat → Int} (hs : side = 1 ∨ side = -1) (hn : n ≤ 6) (hB : Bal M n w v) (hv : ∀ k, v k = 1 ∨ v k = -1 ∨ v k = 0) (q : Q (nI (sW w v allA side n)) M) : w_X2_weightsOf M side Q := by
  have go : ∀ m i : Nat, i + m = n → wL_X2_weightsOf_4 Q (m + 1) M side (nI (sW w v allA side i)) (nI i) := by
    intro m
    induction m with
    | zero =>
      intro i hi
      have hi : i = n := by omega
      subst hi
      exact ⟨fun _ => q, fun e => absurd (by rw [hB.1]; exact nI_le (Nat.le_refl _) (by omega)) e⟩
    | succ m ih =>
      intro i hi
      refine ⟨fun e => absurd e (by rw [hB.1]; exact nI_ge (by omega) (by omega)), fun _ => ?_⟩
      have hin : vp_in (nI i) 6 := vp_in_nI (by omega) (by decide)
      obtain ⟨e30, e31⟩ := hB.2 i (by omega)
      have h := ih (i + 1) (by omega)
      have s1 : sW w v allA side (i + 1) = sW w v allA side i + (if allA i then @ite Nat (sel side (v i)) (Classical.propDecidable _) (w i) 0 else 0) := fb_sm_succ _ _
      have ha : allA i = true := rfl
      rw [s1, if_pos ha] at h
      rw [ix_nat (by omega), e31, e30, sel_eq hs (hv i)]
      refine ⟨hin, fun z v4 e4 v5 e5 => ?_, fun z => ⟨hin, fun v7 e7 v8 e8 => ?_⟩⟩
      · rw [@if_neg _ (Classical.propDecidable _) z Nat, Nat.add_zero] at h
        rw [e4, e5, nI_1, Int32.add_zero]; exact h
      · rw [@if_pos _ (Classical.propDecidable _) z Nat] at h
        rw [e7, e8, nI_1, nI_add]; exact h
  exact ⟨n + 1, go n 0 (by omega)⟩
end WO
theorem Fr_mono {S S2 : Nat → Nat → Prop} {M M2 : Mem} (h : Fr S M M2) (hs : ∀ k j, S k j → S2 k j) : Fr S2 M M2 := fun k j hn => h k j (fun e => hn (hs k j e))
theorem bal_scr {k j : Nat} (h : SBal k j) : SScr k j := by
  unfold SBal at h; unfold SScr; omega
theorem mo_lt {A : Tn} (hV : V A) {f i : Nat} (hr : rel A f i) : mo f i < 126 := by
  have h1 := (V_np hV).2
  have h2 := (V_nd hV).2
  unfold mo
  rcases hr with z | z | ⟨z, p, d, h3, h4, h5⟩
  · repeat (first | omega | split)
  · repeat (first | omega | split)
  · repeat (first | omega | split)
theorem mo0_lt {j : Nat} (h : j < 6) : mo 0 j < 6 := by
  unfold mo
  repeat (first | omega | split)
theorem RM_fr {M M2 : Mem} {B : Nat} {A : Tn} (h : RM M B A) (hV : V A) (hf : ∀ i, i < 126 → M2 86 (B + i) = M 86 (B + i)) : RM M2 B A := by
  refine ⟨fun j hj => ?_, fun f i hr => ?_, fun p d hp hd hn => ?_⟩
  · rw [hf _ (by have := mo0_lt hj; omega)]; exact h.1 j hj
  · rw [hf _ (mo_lt hV hr)]; exact h.2.1 f i hr
  · have := h.2.2 p d hp hd hn
    rw [show B + 54 + 6 * p + d = B + (54 + 6 * p + d) by omega, show B + 90 + 6 * p + d = B + (90 + 6 * p + d) by omega] at this ⊢
    rw [hf _ (by omega), hf _ (by omega)]
    exact this
theorem RM_86 {M M2 : Mem} {B : Nat} {A : Tn} (h : RM M B A) (hV : V A) (hf : ∀ i, M2 86 i = M 86 i) : RM M2 B A := RM_fr h hV (fun i _ => hf _)
noncomputable def vAt (A : Tn) (p d : Nat) (x : Int32) : Int32 := if x = 0 then A 9 (6 * p + d) else if x = 1 then A 10 (6 * p + d) else if x = 2 then nI (fr A (6 * p + d)) else if x = 3 then nI (wt A p d) else if x = 4 then bI (Op A p d allA) else if x = 5 then nI (sW (bw A p d) (bv A p) allA 1 (np A)) else if x = 6 then nI (sW (bw A p d) (bv A p) allA (-1) (np A)) else -1000001
theorem sW_cong {w : Nat → Nat} {v : Nat → Int} {aw aw2 : Nat → Bool} {way : Int32} {n : Nat} (h : ∀ k, k < n → aw k = aw2 k) : sW w v aw way n = sW w v aw2 way n := by
  unfold sW
  exact fb_sm_cong (fun k hk => by rw [h k hk])
theorem S_at (M : Mem) (a b x : Int32) (A : Tn) (hC : RC M 41 A) (hM : RM M 0 A) (hV : V A) (h0 : M 85 15 = 0) : w_X8_at M a b x (fun r M1 => w_X9_at M1 a b x (fun r2 M2 => r = r2 ∧ Fr SScr M M2)) := by
  have hn := (V_np hV).2
  have hm := (V_nd hV).2
  unfold w_X8_at
  refine P8 hC hV (fun p hp e => br1 ?_) (fun hne => br0 ?_)
  · subst e
    refine D8 hC hV (fun d hd e => cr1 ?_) (fun hne => cr0 ?_)
    · subst e
      have hin : vp_in (nI (6 * p + d)) 36 := vp_in_nI (by omega) (by decide)
      have m9 : ∀ M1, Fr SBal M M1 → w_X9_at M1 (nI p) (nI d) x (fun r2 M2 => vAt A p d x = r2 ∧ Fr SScr M M2) := by
        intro M1 hF
        have hM1 : RM M1 0 A := RM_86 hM hV (fun i => hF 86 i (by unfold SBal; omega))
        have h01 : M1 85 15 = 0 := (hF 85 15 (by unfold SBal; omega)).trans h0
        have hS := Fr_mono hF (fun _ _ => bal_scr)
        unfold w_X9_at
        refine P9 hM1 hV (fun p2 hp2 e => br1 ?_) (fun h => absurd ⟨p, hp, rfl⟩ h)
        refine D9 hM1 hV (fun p2 hp2 e => cr1 ?_) (fun h => absurd ⟨d, hd, rfl⟩ h)
        unfold vAt
        refine ⟨fun z => ?_, fun z => ?_, fun z => ?_, fun z => ?_, fun z => ?_, fun z => ?_, fun z => ?_, fun z0 z1 z2 z3 z4 z5 z6 => ⟨?_, hS⟩⟩
        · subst z; exact W9_times (B := 0) (by decide) (by omega) (by omega) ⟨(RM_9 hM1 hp hd).symm, hS⟩
        · subst z
          rw [show 90 + 6 * nI p + nI d = nI (90 + 6 * p + d) from by rw [show (6 : Int32) = nI 6 from rfl, show (90 : Int32) = nI 90 from rfl, pk_mul, nI_add, nI_add]]
          intro v e
          rw [e, ix_nat (by omega)]
          refine ⟨vp_in_nI (by omega) (by decide), ?_, hS⟩
          have := RM_10 hM1 hp hd
          rw [show 0 + 90 + 6 * p + d = 90 + 6 * p + d by omega] at this
          exact this.symm
        · subst z; exact W9_fresh (B := 0) hM1 (by decide) hV hp hd ⟨rfl, hS⟩
        · subst z; exact W9_weight (B := 0) hM1 (by decide) hV hp hd ⟨rfl, hS⟩
        · subst z
          refine W9_open0 (B := 0) hM1 (by decide) hV h01 hp hd ?_
          rw [bI0, Classical.not_not]
          exact ⟨fun z => ⟨bI_f z, hS⟩, fun z => ⟨bI_t z, hS⟩⟩
        · subst z
          refine W9_weights (B := 0) (Or.inr (Or.inl rfl)) hM1 (by decide) hV hp hd ⟨?_, hS⟩
          rw [h01, sW_cong (aw2 := allA) (fun k _ => aslp0 k)]; rfl
        · subst z
          refine W9_weights (B := 0) (Or.inr (Or.inr rfl)) hM1 (by decide) hV hp hd ⟨?_, hS⟩
          rw [h01, sW_cong (aw2 := allA) (fun k _ => aslp0 k)]; rfl
        · rw [if_neg z0, if_neg z1, if_neg z2, if_neg z3, if_neg z4, if_neg z5, if_neg z6]
      have m0 := m9 M (Fr_rf _ _)
      have e9 : M (41 + 9) (6 * p + d) = A 9 (6 * p + d) := hC.2 9 _ (rel_9 hp hd)
      have e10 : M (41 + 10) (6 * p + d) = A 10 (6 * p + d) := hC.2 10 _ (rel_10 hp hd)
      unfold w_X6_cellOf
      rw [cel]
      show _ ∧ _
      rw [ix_nat (by omega), e9, e10]
      refine ⟨fun z => ⟨hin, ?_⟩, fun z => ⟨hin, ?_⟩, fun z => W6_fresh hC hV hp hd ?_, fun z => W6_weight hC hV hp hd ?_, fun z => W8_opens hC rfl hV hp hd (fun M2 hF => ?_), fun z => W2_hold hC rfl hV hp hd (fun M2 hF hB => ?_), fun z => W2_hold hC rfl hV hp hd (fun M2 hF hB => ?_), fun z0 z1 z2 z3 z4 z5 z6 => ?_⟩
      · subst z; exact m0
      · subst z; exact m0
      · subst z; exact m0
      · subst z; exact m0
      · subst z
        have m2 := m9 M2 hF
        have e4 : vAt A p d 4 = bI (Op A p d allA) := rfl
        rw [e4] at m2
        rw [bI0, Classical.not_not]
        refine ⟨fun z => ?_, fun z => ?_⟩
        · rw [bI_f z] at m2; exact m2
        · rw [bI_t z] at m2; exact m2
      · subst z
        exact W2_wof (Or.inl rfl) hn hB (bv_3 A p) (m9 M2 hF)
      · subst z
        exact W2_wof (Or.inr rfl) hn hB (bv_3 A p) (m9 M2 hF)
      · unfold vAt at m0
        rw [if_neg z0, if_neg z1, if_neg z2, if_neg z3, if_neg z4, if_neg z5, if_neg z6] at m0
        exact m0
    · unfold w_X9_at
      refine P9 hM hV (fun p2 hp2 e => br1 ?_) (fun h => absurd ⟨p, hp, rfl⟩ h)
      exact D9 hM hV (fun p hp e => absurd ⟨p, hp, e⟩ hne) (fun _ => cr0 ⟨rfl, Fr_rf _ _⟩)
  · unfold w_X9_at
    exact P9 hM hV (fun p hp e => absurd ⟨p, hp, e⟩ hne) (fun _ => br0 ⟨rfl, Fr_rf _ _⟩)
theorem S_favour (M : Mem) (a b : Int32) (A : Tn) (hC : RC M 41 A) (hM : RM M 0 A) (hV : V A) : w_X8_favour M a b (fun r M1 => w_X9_favour M1 a b (fun r2 M2 => r = r2 ∧ M2 = M)) := by
  unfold w_X8_favour
  refine P8 hC hV (fun p hp e => br1 ?_) (fun hne => br0 ?_)
  · subst e
    refine P8 hC hV (fun c hc e => br1 ?_) (fun hne => br0 ?_)
    · subst e
      have m9 : ∀ v, (¬ nI p = nI c → v = fv A p c) → (nI p = nI c → v = -1000001) → w_X9_favour M (nI p) (nI c) (fun r2 M2 => v = r2 ∧ M2 = M) := by
        intro v h1 h2
        unfold w_X9_favour
        refine P9 hM hV (fun p2 hp2 e => br1 ?_) (fun h => absurd ⟨p, hp, rfl⟩ h)
        refine P9 hM hV (fun p2 hp2 e => br1 ?_) (fun h => absurd ⟨c, hc, rfl⟩ h)
        exact ⟨fun z => ⟨h2 z, rfl⟩, fun z => W9_favour (B := 0) hM (by decide) hV hp ⟨h1 z, rfl⟩⟩
      exact ⟨fun z => W6_favour hC hV hp (m9 _ (fun _ => rfl) (fun e => absurd e z)), fun z => m9 _ (fun e => absurd z e) (fun _ => rfl)⟩
    · unfold w_X9_favour
      refine P9 hM hV (fun p2 hp2 e => br1 ?_) (fun h => absurd ⟨p, hp, rfl⟩ h)
      exact P9 hM hV (fun p hp e => absurd ⟨p, hp, e⟩ hne) (fun _ => br0 ⟨rfl, rfl⟩)
  · unfold w_X9_favour
    exact P9 hM hV (fun p hp e => absurd ⟨p, hp, e⟩ hne) (fun _ => br0 ⟨rfl, rfl⟩)
theorem S_kind (M : Mem) (a : Int32) (A : Tn) (hC : RC M 41 A) (hM : RM M 0 A) (hV : V A) : w_X8_kind M a (fun r M1 => w_X9_kind M1 a (fun r2 M2 => r = r2 ∧ M2 = M)) := by
  have hn := (V_np hV).2
  unfold w_X8_kind
  refine P8 hC hV (fun p hp e => br1 ?_) (fun hne => br0 ?_)
  · subst e
    have e3 : M (41 + 3) p = A 3 p := hC.2 3 _ (rel_p (by decide) (by decide) hp)
    rw [ix_nat (by omega), e3]
    refine ⟨vp_in_nI (by omega) (by decide), ?_⟩
    unfold w_X9_kind
    refine P9 hM hV (fun p2 hp2 e => br1 ?_) (fun h => absurd ⟨p, hp, rfl⟩ h)
    rw [show 18 + nI p = nI (18 + p) from lin2 18 p]
    intro v e
    rw [e, ix_nat (by omega)]
    exact ⟨vp_in_nI (by omega) (by decide), (RM0p hM hp (f := 3) (by decide) (by decide)).symm, rfl⟩
  · unfold w_X9_kind
    exact P9 hM hV (fun p hp e => absurd ⟨p, hp, e⟩ hne) (fun _ => br0 ⟨rfl, rfl⟩)
