section SK
variable {M : Mem} {A : Tn} {c d : Nat}
theorem mrg_op (h : ¬ Op A c d allA) : mrg A c d ≤ 0 := by
  have e : sMar (bw A c d) (bv A c) allA (np A) = mrg A c d := by
    unfold sMar mrg
    exact fb_si_cong (fun k _ => if_pos rfl)
  rw [← e]
  refine Int.not_lt.mp (fun z => h (Or.inl z))
theorem a8_pos {w : Nat → Nat} (hw : ∀ k, w k < 3) (h : ¬ Op A c d allA) (hF : F8 A c d w) : 1 ≤ a8 A c d w := by
  refine Classical.byContradiction (fun hc => ?_)
  have h0 : a8 A c d w = 0 := by omega
  have hz := fb_sm_zero h0
  have hg : g8 A c d w = 0 := by
    unfold g8
    rw [fb_sm_cong (g := fun _ => 0) (fun k hk => ?_), fb_sm_const]
    · omega
    · by_cases z : vbk A c d k = true
      · have := hz k hk
        rw [if_pos z] at this ⊢
        exact prc_0 z (hw k) this
      · rw [if_neg z]
  have h1 := hF.2.2
  have h2 := mrg_op h
  rw [hg] at h1
  omega
theorem t8_lt (hV : V A) (w : Nat → Nat) : t8 A c d w < 64 := Nat.lt_of_lt_of_le (msk_lt _ _) (show 2 ^ np A ≤ 2 ^ 6 from Nat.pow_le_pow_right (by decide) (V_np hV).2)
theorem stb_fo (hV : V A) (h : ¬ Op A c d allA) : ∀ i, stb (fo (cd8 A c d) i) := by
  intro i x hx
  rcases fo_LM (cd8 A c d) i with ⟨h1, -⟩ | ⟨y, h1, ⟨j, hj, ej⟩, -⟩
  · rw [h1] at hx; cases hx
  · rw [h1] at hx
    have hxy := Option.some.inj hx
    by_cases hF : F8 A c d (wb A c d j)
    · rw [cd8_t hF, hxy] at ej
      have := Option.some.inj ej
      rw [← this]
      exact ⟨a8_pos (fun k => dig_lt _ _) h hF, hF.2.1, t8_lt hV _⟩
    · rw [cd8_f hF] at ej; cases ej
theorem cd8_0 (h : ¬ Op A c d allA) : cd8 A c d 0 = none := by
  refine cd8_f (fun hF => ?_)
  have hd0 : ∀ j, dig 0 j = 0 := by
    intro j
    have := rst_le 0 j
    unfold dig
    omega
  have h1 : 1 ≤ a8 A c d (wb A c d 0) := a8_pos (fun k => dig_lt _ _) h hF
  have h0 : a8 A c d (wb A c d 0) = 0 := by
    unfold a8
    rw [fb_sm_cong (g := fun _ => 0) (fun k hk => ?_), fb_sm_const]
    · omega
    · have : wb A c d 0 k = 0 := hd0 _
      rw [this]
      unfold prc
      split
      · rw [if_pos rfl]
      · rfl
  omega
theorem pow3_le {v : Nat} (h : v ≤ 6) : 3 ^ v ≤ 729 := show 3 ^ v ≤ 3 ^ 6 from Nat.pow_le_pow_right (by decide) h
theorem W2_mar {Q : Int32 → Mem → Prop} (hV : V A) (hd : d < nd A) (hB : Bal M (np A) (bw A c d) (bv A c)) (q : Q (Int32.ofInt (mrg A c d)) M) : w_X2_margin M Q := by
  have hn := (V_np hV).2
  unfold w_X2_margin
  refine W2_wof (Or.inl rfl) hn hB (bv_3 A c) (W2_wof (Or.inr rfl) hn hB (bv_3 A c) ?_)
  have hm := sW_m (bw A c d) (bv A c) allA (bv_3 A c) (np A)
  have e : sMar (bw A c d) (bv A c) allA (np A) = mrg A c d := by
    unfold sMar mrg
    exact fb_si_cong (fun k _ => if_pos rfl)
  rw [ofI_n, ofI_n, ← Int32.ofInt_sub, ← hm, e]
  exact q
theorem W5_seek {Q : Mem → Prop} (hV : V A) (hc : c < np A) (hd : d < nd A) (hB : Bal M (np A) (bw A c d) (bv A c)) (hS : SWi M A c d (np A)) (q1 : Op A c d allA → ∀ M2, (∀ k j, ¬ (k = 37 ∧ (j = 4 ∨ j = 5)) → M2 k j = M k j) → M2 37 4 = 0 → M2 37 5 = 0 → Q M2) (q0 : ¬ Op A c d allA → ∀ M2, (∀ k j, ¬ (k = 37 ∧ (j = 4 ∨ j = 5)) → M2 k j = M k j) → M2 37 4 = q4 (fo (cd8 A c d) (3 ^ vc A c d (np A))) → M2 37 5 = q5 (fo (cd8 A c d) (3 ^ vc A c d (np A))) → Q M2) : w_X5_seek M Q := by
  have hn := (V_np hV).2
  have hv6 := vc_le A c d (np A)
  have h3 := pow3_le (show vc A c d (np A) ≤ 6 by omega)
  have h3p : 0 < 3 ^ vc A c d (np A) := Nat.pow_pos (by decide)
  have bargains : ∀ (M3 : Mem) (x2 : Int32), M3 37 3 = nI (vc A c d (np A)) → (∃ n2 : Nat, wL_X5_seek_59 Q n2 M3 x2 (nI (3 ^ vc A c d (np A))) 1) → ∃ n7 : Nat, wL_X5_seek_37 Q n7 M3 x2 1 0 := by
    intro M3 x2 h37 hq
    have go : ∀ m i : Nat, i + m = vc A c d (np A) → wL_X5_seek_37 Q (m + 1) M3 x2 (nI (3 ^ i)) (nI i) := by
      intro m
      induction m with
      | zero =>
        intro i hi
        have hi : i = vc A c d (np A) := by omega
        rw [hi]
        exact ⟨fun _ => hq, fun e => absurd (by rw [h37]; exact nI_le (Nat.le_refl _) (by omega)) e⟩
      | succ m ih =>
        intro i hi
        refine ⟨fun e => absurd e (by rw [h37]; exact nI_ge (by omega) (by omega)), fun _ v3 e3 v4 e4 => ?_⟩
        rw [show (3 : Int32) = nI 3 from rfl, pk_mul, ← Nat.pow_succ] at e3
        rw [e3, e4, nI_1]
        exact ih (i + 1) (by omega)
    exact ⟨_, go (vc A c d (np A)) 0 (by omega)⟩
  have SW_cong : ∀ M2 : Mem, (∀ k j, ¬ (k = 37 ∧ (j = 4 ∨ j = 5)) → M2 k j = M k j) → SWi M2 A c d (np A) := by
    intro M2 hF
    unfold SWi at hS ⊢
    rw [hF 37 3 (by omega)]
    refine ⟨hS.1, fun k hk hv => ?_⟩
    rw [hF 38 _ (by omega)]
    refine ⟨(hS.2 k hk hv).1, fun o ho => ?_⟩
    rw [hF 39 _ (by omega), hF 40 _ (by omega)]
    exact (hS.2 k hk hv).2 o ho
  have Bal_cong : ∀ M2 : Mem, (∀ k j, ¬ (k = 37 ∧ (j = 4 ∨ j = 5)) → M2 k j = M k j) → Bal M2 (np A) (bw A c d) (bv A c) := by
    intro M2 hF
    unfold Bal at hB ⊢
    rw [hF 29 2 (by omega)]
    refine ⟨hB.1, fun k hk => ?_⟩
    rw [hF 30 k (by omega), hF 31 k (by omega)]
    exact hB.2 k hk
  have start : ∀ s1 : Int32, (∀ M3, M3 = ms (ms M 37 4 s1) 37 5 s1 → (∀ k j, ¬ (k = 37 ∧ (j = 4 ∨ j = 5)) → M3 k j = M k j) → M3 37 4 = s1 → M3 37 5 = s1 → ∃ n2 : Nat, wL_X5_seek_59 Q n2 M3 (Int32.ofInt (1 - mrg A c d)) (nI (3 ^ vc A c d (np A))) 1) → wJ_X5_seek_14 Q M s1 := by
    intro s1 hq
    unfold wJ_X5_seek_14
    intro M1 e1 v2 e2 M3 e3
    have k4 : M1 37 4 = s1 := by rw [e1, ms_eq]
    rw [k4] at e2
    have eM3 : M3 = ms (ms M 37 4 s1) 37 5 s1 := by rw [e3, e2, e1]
    have hF3 : ∀ k j, ¬ (k = 37 ∧ (j = 4 ∨ j = 5)) → M3 k j = M k j := by
      intro k j hk
      rw [eM3, ms_app, if_neg (by omega), ms_app, if_neg (by omega)]
    refine W2_mar hV hd (Bal_cong M3 hF3) (fun v6 e6 => ?_)
    have e6' : v6 = Int32.ofInt (1 - mrg A c d) := by
      rw [e6, Int32.ofInt_sub]
      rfl
    rw [e6']
    refine bargains M3 _ ((hF3 37 3 (by omega)).trans hS.1) (hq M3 eM3 hF3 ?_ ?_)
    · rw [eM3, ms_ne2 (by decide), ms_eq]
    · rw [eM3, ms_eq]
  unfold w_X5_seek
  refine W2_opens hn hB (fun k hk => bw_le hV hk hd) (bv_3 A c) ?_
  by_cases ho : Op A c d allA
  · have ho2 : OPN (bw A c d) (bv A c) allA (np A) := ho
    rw [bI_t ho2]
    refine br1 (start 0 (fun M3 eM3 hF3 k4 k5 => ⟨1, ?_⟩))
    exact ⟨fun _ => q1 ho M3 hF3 k4 k5, fun _ => ⟨fun _ => q1 ho M3 hF3 k4 k5, fun e => absurd k4 e⟩⟩
  · have ho2 : ¬ OPN (bw A c d) (bv A c) allA (np A) := ho
    rw [bI_f ho2]
    have go : ∀ m b : Nat, b + m = 3 ^ vc A c d (np A) → 1 ≤ b → ∀ M1 : Mem, (∀ k j, ¬ (k = 37 ∧ (j = 4 ∨ j = 5)) → M1 k j = M k j) → M1 37 4 = q4 (fo (cd8 A c d) b) → M1 37 5 = q5 (fo (cd8 A c d) b) → wL_X5_seek_59 Q (m + 1) M1 (Int32.ofInt (1 - mrg A c d)) (nI (3 ^ vc A c d (np A))) (nI b) := by
      intro m
      induction m with
      | zero =>
        intro b hb hb1 M1 hF k4 k5
        have hb : b = 3 ^ vc A c d (np A) := by omega
        rw [hb] at k4 k5 ⊢
        exact ⟨fun _ => q0 ho M1 hF k4 k5, fun e => absurd (nI_le (Nat.le_refl _) (by omega)) e⟩
      | succ m ih =>
        intro b hb hb1 M1 hF k4 k5
        have hst := stb_fo hV ho b
        refine ⟨fun e => absurd e (nI_ge (by omega) (by omega)), fun _ => ⟨fun e => ?_, fun _ => ?_⟩⟩
        · exfalso
          rw [k4] at e
          cases hs : fo (cd8 A c d) b with
          | none => rw [hs] at e; exact absurd e (by decide)
          | some x =>
            rw [hs] at e
            obtain ⟨x1, x2, -⟩ := hst x hs
            have := (nI_z (show x.1 < 2 ^ 31 by omega)).mp e
            omega
        · refine W5_weigh hV hd (SW_cong M1 hF) (by omega) k4 k5 hst (fun M3 hF3 k43 k53 v5 e5 => ?_)
          rw [e5, nI_1]
          exact ih (b + 1) (by omega) (by omega) M3 (fun k j hk => (hF3 k j hk).trans (hF k j hk)) k43 k53
    refine br0 (start (-1000000) (fun M3 eM3 hF3 k4 k5 => ⟨3 ^ vc A c d (np A) - 1 + 1, ?_⟩))
    have e1 : fo (cd8 A c d) 1 = none := by
      show upd2 none (cd8 A c d 0) = none
      rw [cd8_0 ho]
      rfl
    refine go (3 ^ vc A c d (np A) - 1) 1 (by omega) (Nat.le_refl _) M3 hF3 ?_ ?_
    · rw [e1]; exact k4
    · rw [e1]; exact k5
end SK
/-! the reference -/
noncomputable def cd9 (A : Tn) (c d ch : Nat) : Option (Nat × Nat) := @ite _ (F9 A c d (dig ch)) (Classical.propDecidable _) (some (a9 A c (dig ch), t9 A c (dig ch))) none
theorem cd9_t {A : Tn} {c d b : Nat} (h : F9 A c d (dig b)) : cd9 A c d b = some (a9 A c (dig b), t9 A c (dig b)) := @if_pos _ (Classical.propDecidable _) h _ _ _
theorem cd9_f {A : Tn} {c d b : Nat} (h : ¬ F9 A c d (dig b)) : cd9 A c d b = none := @if_neg _ (Classical.propDecidable _) h _ _ _
theorem t9_lt {A : Tn} {c : Nat} (hV : V A) (w : Nat → Nat) : t9 A c w < 64 := Nat.lt_of_lt_of_le (msk_lt _ _) (show 2 ^ np A ≤ 2 ^ 6 from Nat.pow_le_pow_right (by decide) (V_np hV).2)
theorem fo_eq {A : Tn} {c d : Nat} (hV : V A) (hd : d < nd A) : fo (cd8 A c d) (3 ^ vc A c d (np A)) = fo (cd9 A c d) 729 := by
  have hn := (V_np hV).2
  refine LM_eq (S := S8 A c d) (T := S9 A c d) (LM_iff (fo_LM (cd8 A c d) _) (fun x => ?_)) (LM_iff (fo_LM (cd9 A c d) _) (fun x => ?_)) (S89 hV) (S98 hV hd)
  · constructor
    · rintro ⟨b, hb, e⟩
      by_cases hF : F8 A c d (wb A c d b)
      · rw [cd8_t hF] at e
        exact ⟨wb A c d b, fun k => dig_lt _ _, hF, (Option.some.inj e).symm⟩
      · rw [cd8_f hF] at e; cases e
    · rintro ⟨w, hw, hF, e⟩
      have hu : ∀ j, ∃ o, o < 3 ∧ ∀ k, k < np A → vbk A c d k = true → vc A c d k = j → w k = o := by
        intro j
        by_cases h : ∃ k, k < np A ∧ vbk A c d k = true ∧ vc A c d k = j
        · obtain ⟨k, h1, h2, h3⟩ := h
          refine ⟨w k, hw k, fun k' _ h2' h3' => ?_⟩
          have : k' = k := fb_ct_kth_one (p := vbk A c d) h2' h2 (show vc A c d k' = vc A c d k by rw [h3, h3'])
          rw [this]
        · exact ⟨0, by decide, fun k h1 h2 h3 => absurd ⟨k, h1, h2, h3⟩ h⟩
      obtain ⟨b, hb, hdg⟩ := dig_ex (vc A c d (np A)) (fun j => Classical.choose (hu j)) (fun j => (Classical.choose_spec (hu j)).1)
      have hwb : ∀ k, k < np A → vbk A c d k = true → wb A c d b k = w k := by
        intro k hk hv
        have h1 := hdg (vc A c d k) (vc_lt hk hv)
        have h2 := (Classical.choose_spec (hu (vc A c d k))).2 k hk hv rfl
        show dig b (vc A c d k) = w k
        rw [h1, h2]
      have ea : a8 A c d (wb A c d b) = a8 A c d w := by
        unfold a8
        refine fb_sm_cong (fun k hk => ?_)
        by_cases z : vbk A c d k = true
        · rw [if_pos z, if_pos z, hwb k hk z]
        · rw [if_neg z, if_neg z]
      have eg : g8 A c d (wb A c d b) = g8 A c d w := by
        unfold g8
        refine fb_sm_cong (fun k hk => ?_)
        by_cases z : vbk A c d k = true
        · rw [if_pos z, if_pos z, hwb k hk z]
        · rw [if_neg z, if_neg z]
      have et : t8 A c d (wb A c d b) = t8 A c d w := by
        unfold t8
        refine msk_cong (fun k hk => ?_)
        by_cases z : vbk A c d k = true
        · rw [hwb k hk z]
        · rw [Bool.eq_false_iff.mpr z, Bool.false_and, Bool.false_and]
      refine ⟨b, hb, ?_⟩
      rw [cd8_t ⟨fun k hk hv => by rw [hwb k hk hv]; exact hF.1 k hk hv, by rw [ea]; exact hF.2.1, by rw [eg]; exact hF.2.2⟩, e, ea, et]
  · constructor
    · rintro ⟨b, hb, e⟩
      by_cases hF : F9 A c d (dig b)
      · rw [cd9_t hF] at e
        exact ⟨dig b, fun k => dig_lt _ _, hF, (Option.some.inj e).symm⟩
      · rw [cd9_f hF] at e; cases e
    · rintro ⟨w, hw, hF, e⟩
      obtain ⟨b, hb, hdg⟩ := dig_ex 6 w hw
      have hwb : ∀ k, k < np A → dig b k = w k := fun k hk => hdg k (by omega)
      have ee : e9 A c d (dig b) = e9 A c d w := fb_si_cong (fun k hk => by rw [hwb k hk])
      have ea : a9 A c (dig b) = a9 A c w := fb_sm_cong (fun k hk => by rw [hwb k hk])
      have et : t9 A c (dig b) = t9 A c w := msk_cong (fun k hk => by rw [hwb k hk])
      refine ⟨b, hb, ?_⟩
      rw [cd9_t ⟨by rw [ee]; exact hF.1, by rw [ea]; exact hF.2⟩, e, ea, et]
section G9
variable {M : Mem} {A : Tn} {c d : Nat}
theorem gft_le (hV : V A) {k : Nat} (hk : k < np A) {o : Nat} (ho : o < 3) : gft A c k o ≤ 30 := by
  have h := lx_b (c := c) hV hk
  unfold gft
  split
  · omega
  · split
    · omega
    · omega
theorem W9_gf {k o : Nat} {Q : Int32 → Mem → Prop} (hM : RM M 0 A) (hV : V A) (hk : k < np A) (hkc : k ≠ c) (ho : o < 3) (q : Q (nI (gft A c k o)) M) : w_X9_giftsFor M (nI k) (nI c) (nI o) Q := by
  have hl := lx_b (c := c) hV hk
  have z0 : (0 : Int32).toInt = 0 := by decide
  unfold w_X9_giftsFor wJ_X9_giftsFor_23
  refine W9_lean (B := 0) hM (by decide) hV hk ?_
  rw [nI_z (by omega)]
  refine ⟨fun z => ?_, fun z => ?_⟩
  · rw [gft_s hkc z] at q
    have e1 : (nI o - 1).toInt = (o : Int) - 1 := by
      have o1 : (1 : Int32).toInt = 1 := by decide
      rw [fb_subI (by rw [nI_toInt (by omega), o1]; omega) (by rw [nI_toInt (by omega), o1]; omega), nI_toInt (by omega), o1]
    have e2 : (nI o - 1 - lean A k c).toInt = (o : Int) - 1 - lx A c k := by
      have hlx : (lean A k c).toInt = lx A c k := rfl
      rw [fb_subI (by omega) (by omega), e1, hlx]
    refine ⟨fun y => ?_, fun y => ?_⟩
    · rw [fa_le, z0, e2] at y
      have : nI o - 1 - lean A k c = nI ((o : Int) - 1 - lx A c k).toNat := by
        rw [fa_eq, e2, nI_toInt (by omega)]
        omega
      rw [this]; exact q
    · rw [fa_le, z0, e2] at y
      rw [show ((o : Int) - 1 - lx A c k).toNat = 0 by omega] at q
      exact q
  · rw [z, gft_0] at q
    exact ⟨fun _ => q, fun y => absurd (by decide) y⟩
theorem W9_poll {ch : Nat} {Q : Int32 → Mem → Prop} (hM : RM M 0 A) (hV : V A) (hc : c < np A) (hd : d < nd A) (hch : ch < 729) (q : Q (Int32.ofInt (e9 A c d (dig ch))) M) : w_X9_pollOf M (nI c) (nI d) (nI ch) Q := by
  have hn := (V_np hV).2
  have e3 : M 86 3 = nI (np A) := (RM0 hM (j := 3) (by decide)).trans (V_np hV).1
  have z0 : (0 : Int32).toInt = 0 := by decide
  have go : ∀ m k : Nat, k + m = np A → wL_X9_pollOf_9 Q (m + 1) M (nI c) (nI d) (Int32.ofInt (fb_si (fun k => eff A c d k (dig ch k)) k)) (nI (rst ch k)) (nI k) := by
    intro m
    induction m with
    | zero =>
      intro k hk
      have hk : k = np A := by omega
      subst hk
      exact ⟨fun _ => q, fun e => absurd (by rw [e3]; exact nI_le (Nat.le_refl _) (by omega)) e⟩
    | succ m ih =>
      intro k hk
      have hh := ih (k + 1) (by omega)
      rw [fb_si_succ, Int32.ofInt_add] at hh
      have hrl := rst_le ch k
      have er : nI (rst ch k) / 3 = nI (rst ch (k + 1)) := pk_div (d := 3) (by omega) (by decide) (by decide)
      have ed : nI (rst ch k) - nI (rst ch k) / 3 * 3 = nI (dig ch k) := pk_rem (d := 3) (by omega) (by decide) (by decide)
      have hdl := dig_lt ch k
      refine ⟨fun e => absurd e (by rw [e3]; exact nI_ge (by omega) (by omega)), fun _ => ?_⟩
      rw [ed]
      have j81 : ∀ s0 : Int32, (¬ k = c → (¬ s0 ≤ 0 → eff A c d k (dig ch k) = (bw A c d k : Int)) ∧ (s0 ≤ 0 → 0 ≤ s0 → eff A c d k (dig ch k) = 0) ∧ (s0 ≤ 0 → ¬ 0 ≤ s0 → eff A c d k (dig ch k) = -(bw A c d k : Int))) → wJ_X9_pollOf_81 Q (wL_X9_pollOf_9 Q (m + 1)) M (nI c) (nI d) (Int32.ofInt (fb_si (fun k => eff A c d k (dig ch k)) k)) (nI (rst ch k)) (nI k) s0 := by
        intro s0 hs
        unfold wJ_X9_pollOf_81
        rw [er]
        refine ⟨fun z => ?_, fun z v17 e17 v18 e18 v19 e19 => ?_⟩
        · have hne : ¬ k = c := fun e => z (by rw [e])
          obtain ⟨h1, h2, h3⟩ := hs hne
          have ew : bw A c d k = wt A k d := by unfold bw; rw [if_neg hne]
          refine ⟨fun y => ⟨fun y2 v4 e4 v5 e5 v6 e6 => ?_, fun y2 => W9_weight (B := 0) hM (by decide) hV (by omega) hd (fun v9 e9 v10 e10 v11 e11 => ?_)⟩, fun y => W9_weight (B := 0) hM (by decide) hV (by omega) hd (fun v14 e14 v15 e15 v16 e16 => ?_)⟩
          · rw [h2 y y2] at hh
            rw [e4, e5, e6, nI_1]
            exact hh
          · rw [h3 y y2, ew, Int32.ofInt_neg, ← ofI_n] at hh
            rw [e9, e10, e11, nI_1]
            exact hh
          · rw [h1 y, ew, ← ofI_n] at hh
            rw [e14, e15, e16, nI_1]
            exact hh
        · have he : k = c := nI_inj (by omega) (by omega) z
          have h0 : eff A c d k (dig ch k) = 0 := by unfold eff; rw [if_pos he]
          rw [h0] at hh
          rw [e17, e18, e19, nI_1]
          exact hh
      have hl := lx_b (c := c) hV (show k < np A by omega)
      have hgl := gft_le (c := c) hV (show k < np A by omega) hdl
      have j41 : ∀ s0 : Int32, (¬ k = c → s0 = nI (gft A c k (dig ch k))) → (k = c → s0 = 0) → wJ_X9_pollOf_41 Q (wL_X9_pollOf_9 Q (m + 1)) M (nI c) (nI d) (Int32.ofInt (fb_si (fun k => eff A c d k (dig ch k)) k)) (nI (rst ch k)) (nI k) s0 := by
        intro s0 hs1 hs2
        unfold wJ_X9_pollOf_41
        refine W9_lean (B := 0) hM (by decide) hV (by omega) (fun v3 ev3 => ?_)
        have k3 : M 86 (18 + k) = A 3 k := RM0p hM (show k < np A by omega) (f := 3) (by decide) (by decide)
        obtain ⟨e3k, k31, k35, -⟩ := hV.2.2.1 k (by omega)
        have t3 : ¬ k = c → v3.toInt = lx A c k + (gft A c k (dig ch k) : Int) := by
          intro hne
          rw [ev3, hs1 hne]
          have hlx : (lean A k c).toInt = lx A c k := rfl
          have hg : (nI (gft A c k (dig ch k))).toInt = (gft A c k (dig ch k) : Int) := nI_toInt (by omega)
          rw [fb_addI (by omega) (by omega), hlx, hg]
        unfold wJ_X9_pollOf_79
        refine ⟨fun y => j81 v3 (fun hne => ?_), fun y => ?_⟩
        · have ht := t3 hne
          rw [fa_le, z0, ht] at y
          unfold eff
          rw [if_neg hne]
          refine ⟨fun w => ?_, fun w w2 => ?_, fun w w2 => ?_⟩
          · rw [fa_le, z0, ht] at w
            rw [if_pos (by omega)]
          · rw [fa_le, z0, ht] at w
            rw [if_neg (by omega), if_neg (by omega)]
          · rw [fa_le, z0, ht] at w2
            omega
        · rw [show 18 + nI k = nI (18 + k) from lin2 18 k]
          intro v5 e5
          rw [e5, ix_nat (by omega), k3, e3k]
          refine ⟨vp_in_nI (by omega) (by decide), fun z => j81 v3 (fun hne => ?_), fun z => j81 0 (fun hne => ?_)⟩
          · have ht := t3 hne
            rw [fa_le, z0, ht] at y
            have z5 : ¬ na A 3 k = 5 := fun e => z (by rw [e]; rfl)
            unfold eff
            rw [if_neg hne]
            refine ⟨fun w => ?_, fun w w2 => ?_, fun w w2 => ?_⟩
            · rw [fa_le, z0, ht] at w
              omega
            · rw [fa_le, z0, ht] at w2
              omega
            · rw [if_neg (by omega), if_pos ⟨by omega, z5⟩]
          · have ht := t3 hne
            rw [fa_le, z0, ht] at y
            have z5 : na A 3 k = 5 := nI_inj (b := 5) (by omega) (by decide) z
            unfold eff
            rw [if_neg hne]
            refine ⟨fun w => absurd (by decide) w, fun w w2 => ?_, fun w w2 => absurd (by decide) w2⟩
            rw [if_neg (by omega), if_neg (fun e => e.2 z5)]
      refine ⟨fun z => ?_, fun z => ?_⟩
      · have hne : ¬ k = c := fun e => z (by rw [e])
        exact W9_gf hM hV (by omega) hne hdl (j41 _ (fun _ => rfl) (fun e => absurd e hne))
      · have he : k = c := nI_inj (by omega) (by omega) z
        exact j41 0 (fun e => absurd he e) (fun _ => rfl)
  exact ⟨np A + 1, go (np A) 0 (by omega)⟩
theorem W9_tak {ch : Nat} {Q : Mem → Prop} (hM : RM M 0 A) (hV : V A) (hc : c < np A) (hch : ch < 729) (q : ∀ M2, Fr S85 M M2 → M2 85 19 = nI (a9 A c (dig ch)) → M2 85 20 = nI (t9 A c (dig ch)) → Q M2) : w_X9_layTaken M (nI c) (nI ch) Q := by
  have hn := (V_np hV).2
  have e3 : M 86 3 = nI (np A) := (RM0 hM (j := 3) (by decide)).trans (V_np hV).1
  have go : ∀ m k : Nat, k + m = np A → ∀ M1, Fr S85 M M1 → M1 85 19 = nI (fb_sm (fun k => cst A c k (dig ch k)) k) → M1 85 20 = nI (msk (fun k => decide (0 < gft A c k (dig ch k))) k) → wL_X9_layTaken_15 Q (m + 1) M1 (nI c) (nI (rst ch k)) (nI k) := by
    intro m
    induction m with
    | zero =>
      intro k hk M1 hF k19 k20
      have hk : k = np A := by omega
      subst hk
      exact ⟨fun _ => q M1 hF k19 k20, fun e => absurd (by rw [hF 86 3 (by unfold S85; omega), e3]; exact nI_le (Nat.le_refl _) (by omega)) e⟩
    | succ m ih =>
      intro k hk M1 hF k19 k20
      have hrl := rst_le ch k
      have er : nI (rst ch k) / 3 = nI (rst ch (k + 1)) := pk_div (d := 3) (by omega) (by decide) (by decide)
      have ed : nI (rst ch k) - nI (rst ch k) / 3 * 3 = nI (dig ch k) := pk_rem (d := 3) (by omega) (by decide) (by decide)
      have hdl := dig_lt ch k
      have hgl := gft_le (c := c) hV (show k < np A by omega) hdl
      refine ⟨fun e => absurd e (by rw [hF 86 3 (by unfold S85; omega), e3]; exact nI_ge (by omega) (by omega)), fun _ => ?_⟩
      rw [ed]
      have j68 : ∀ s2 : Int32, s2 = nI (cst A c k (dig ch k)) → wJ_X9_layTaken_68 Q (wL_X9_layTaken_15 Q (m + 1)) M1 (nI c) (nI (rst ch k)) (nI k) (nI (gft A c k (dig ch k))) (M1 85 19) s2 := by
        intro s2 es2
        unfold wJ_X9_layTaken_68
        rw [er]
        intro v1 e1 M2 e2
        have k202 : M2 85 20 = nI (msk (fun k => decide (0 < gft A c k (dig ch k))) k) := by rw [e2, ms_ne2 (by decide), k20]
        rw [es2, k19, nI_add] at e1
        rw [k202, nI_le0 (by omega)]
        refine ⟨fun z v4 e4 M5 e5 v6 e6 v7 e7 => ?_, fun z v8 e8 M9 e9 v10 e10 v11 e11 => ?_⟩
        · rw [e6, e7, nI_1]
          refine ih (k + 1) (by omega) M5 (by rw [e5, e2]; exact Fr_ms (Fr_ms hF _ (by unfold S85; omega)) _ (by unfold S85; omega)) ?_ ?_
          · rw [e5, ms_ne2 (by decide), e2, ms_eq, e1, fb_sm_succ]
          · rw [e5, ms_eq, e4, Int32.or_zero, msk_s, if_neg (fun e => by have := of_decide_eq_true e; omega), Nat.or_zero]
        · rw [e10, e11, nI_1]
          refine ih (k + 1) (by omega) M9 (by rw [e9, e2]; exact Fr_ms (Fr_ms hF _ (by unfold S85; omega)) _ (by unfold S85; omega)) ?_ ?_
          · rw [e9, ms_ne2 (by decide), e2, ms_eq, e1, fb_sm_succ]
          · rw [e9, ms_eq, e8, or_pow (by omega), msk_s, if_pos (decide_eq_true (by omega))]
      have j46 : wJ_X9_layTaken_46 Q (wL_X9_layTaken_15 Q (m + 1)) M1 (nI c) (nI (rst ch k)) (nI k) (nI (gft A c k (dig ch k))) := by
        unfold wJ_X9_layTaken_46
        refine ⟨fun z => j68 _ ?_, fun z => j68 1000 ?_⟩
        · have z := (nI_leI (b := 20) (by omega) (by decide)).mp z
          unfold cst
          rw [if_neg (by omega)]
        · have z : ¬ gft A c k (dig ch k) ≤ 20 := fun e => z (nI_le (b := 20) e (by decide))
          unfold cst
          rw [if_pos (by omega)]
          rfl
      refine ⟨fun z => ?_, fun z => ?_⟩
      · have hne : ¬ k = c := fun e => z (by rw [e])
        exact W9_gf (RM_S85 hM hV hF) hV (by omega) hne hdl j46
      · have he : k = c := nI_inj (by omega) (by omega) z
        have h0 : gft A c k (dig ch k) = 0 := by unfold gft; rw [if_pos he]
        rw [h0] at j46
        exact j46
  unfold w_X9_layTaken
  intro M1 e1 M2 e2
  refine ⟨np A + 1, go (np A) 0 (by omega) M2 ?_ ?_ ?_⟩
  · rw [e2, e1]; exact Fr_ms (Fr_ms (Fr_rf _ _) _ (by unfold S85; omega)) _ (by unfold S85; omega)
  · rw [e2, ms_ne2 (by decide), e1, ms_eq]; rfl
  · rw [e2, ms_eq]; rfl
def q41 (st : Option (Nat × Nat)) : Int32 := match st with | none => 41 | some x => nI x.1
theorem Gf9 {x : Int32} {Q : Int32 → Mem → Prop} (hM : RM M 0 A) (hV : V A) (hc : c < np A) (hd : d < nd A) (q : ∀ M2, Fr S85 M M2 → (x = 0 → Q (q4 (fo (cd9 A c d) 729)) M2) ∧ (¬ x = 0 → Q (q5 (fo (cd9 A c d) 729)) M2)) : ∃ n13 : Nat, wL_X9_gifts_52 Q n13 M (nI c) (nI d) x 41 (-1000000) 0 := by
  have hn := (V_np hV).2
  have stb9 : ∀ i y, fo (cd9 A c d) i = some y → y.1 ≤ 40 ∧ y.2 < 64 := by
    intro i y hy
    rcases fo_LM (cd9 A c d) i with ⟨h1, -⟩ | ⟨z, h1, ⟨j, hj, ej⟩, -⟩
    · rw [h1] at hy; cases hy
    · rw [h1] at hy
      have hxy := Option.some.inj hy
      by_cases hF : F9 A c d (dig j)
      · rw [cd9_t hF, hxy] at ej
        have := Option.some.inj ej
        rw [← this]
        exact ⟨hF.2, t9_lt hV _⟩
      · rw [cd9_f hF] at ej; cases ej
  have go : ∀ m ch : Nat, ch + m = 729 → ∀ M1, Fr S85 M M1 → wL_X9_gifts_52 Q (m + 1) M1 (nI c) (nI d) x (q41 (fo (cd9 A c d) ch)) (q5 (fo (cd9 A c d) ch)) (nI ch) := by
    intro m
    induction m with
    | zero =>
      intro ch hch M1 hF
      have hch : ch = 729 := by omega
      subst hch
      refine ⟨fun _ => ?_, fun e => absurd (by decide) e⟩
      have hq := q M1 hF
      cases hs : fo (cd9 A c d) 729 with
      | none =>
        rw [hs] at hq
        refine ⟨fun e => absurd rfl e, fun _ => ?_⟩
        by_cases z : x = 0
        · exact hq.1 z
        · exact hq.2 z
      | some y =>
        rw [hs] at hq
        obtain ⟨y1, y2⟩ := stb9 729 y hs
        exact ⟨fun _ => ⟨fun z => hq.2 z, fun z => hq.1 z⟩, fun e => absurd e (nI_none (by omega))⟩
    | succ m ih =>
      intro ch hch M1 hF
      refine ⟨fun e => absurd e (nI_ge (a := ch) (b := 729) (by omega) (by decide)), fun _ => ?_⟩
      have hM1 := RM_S85 hM hV hF
      refine W9_poll hM1 hV hc hd (by omega) ?_
      have eb : -1000 ≤ e9 A c d (dig ch) ∧ e9 A c d (dig ch) ≤ 1000 := by
        have h := fb_si_bound (f := fun k => eff A c d k (dig ch k)) (c := 108) (n := np A) (by decide) (fun k hk => by
          have h1 := bw_le hV (c := c) hk hd
          show -108 ≤ eff A c d k (dig ch k) ∧ eff A c d k (dig ch k) ≤ 108
          unfold eff
          split
          · omega
          · split
            · omega
            · split <;> omega)
        unfold e9
        omega
      have hle : (Int32.ofInt (e9 A c d (dig ch)) ≤ 0) ↔ ¬ 0 < e9 A c d (dig ch) := by
        have z0 : (0 : Int32).toInt = 0 := by decide
        rw [fa_le, z0, fb_ofI (by omega) (by omega)]
        omega
      rw [hle]
      have nxt : ∀ M2, Fr S85 M M2 → ∀ x4 x5 : Int32, x4 = q41 (fo (cd9 A c d) (ch + 1)) → x5 = q5 (fo (cd9 A c d) (ch + 1)) → wL_X9_gifts_52 Q (m + 1) M2 (nI c) (nI d) x x4 x5 (nI (ch + 1)) := by
        intro M2 hF2 x4 x5 e4 e5
        rw [e4, e5]
        exact ih (ch + 1) (by omega) M2 hF2
      have hstep : fo (cd9 A c d) (ch + 1) = upd2 (fo (cd9 A c d) ch) (cd9 A c d ch) := rfl
      refine ⟨fun z v7 e7 => ?_, fun z => W9_tak hM1 hV hc (by omega) (fun M8 hF8 k19 k20 => ?_)⟩
      · rw [e7, nI_1]
        refine nxt M1 hF _ _ ?_ ?_
        · rw [hstep, cd9_f (fun f => z f.1)]; rfl
        · rw [hstep, cd9_f (fun f => z f.1)]; rfl
      · have hF8 := Fr_tr hF hF8
        have z := Classical.not_not.mp z
        have la : a9 A c (dig ch) ≤ 6000 := by
          refine Nat.le_trans (fb_sm_bound (c := 1000) (fun k hk => ?_)) (Nat.mul_le_mul_right 1000 hn)
          have := gft_le (c := c) hV hk (dig_lt ch k)
          show cst A c k (dig ch k) ≤ 1000
          unfold cst
          split <;> omega
        have lt := t9_lt (c := c) hV (dig ch)
        have yes : btr (fo (cd9 A c d) ch) (a9 A c (dig ch)) (t9 A c (dig ch)) → a9 A c (dig ch) ≤ 40 → ∀ x4 x5, wJ_X9_gifts_114 Q (wL_X9_gifts_52 Q (m + 1)) M8 (nI c) (nI d) x x4 x5 (nI ch) := by
          intro hb h40 x4 x5
          have hcd := cd9_t (A := A) (c := c) (d := d) (b := ch) ⟨z, h40⟩
          unfold wJ_X9_gifts_114 wJ_X9_gifts_119 wJ_X9_gifts_135
          refine ⟨fun e => absurd e (by decide), fun _ => ⟨fun e => absurd e (by decide), fun _ v3 e3 v4 e4 => ?_⟩⟩
          rw [e4, nI_1]
          refine nxt M8 hF8 _ _ ?_ ?_
          · rw [hstep, hcd, upd2_t hb, e3, k19]; rfl
          · rw [hstep, hcd, upd2_t hb, k20]; rfl
        have no : (¬ btr (fo (cd9 A c d) ch) (a9 A c (dig ch)) (t9 A c (dig ch)) ∨ ¬ a9 A c (dig ch) ≤ 40) → wJ_X9_gifts_118 Q (wL_X9_gifts_52 Q (m + 1)) M8 (nI c) (nI d) x (q41 (fo (cd9 A c d) ch)) (q5 (fo (cd9 A c d) ch)) (nI ch) := by
          intro hb
          have hst : fo (cd9 A c d) (ch + 1) = fo (cd9 A c d) ch := by
            rw [hstep]
            by_cases h40 : a9 A c (dig ch) ≤ 40
            · rw [cd9_t ⟨z, h40⟩, upd2_f (hb.resolve_right (fun h => h h40))]
            · rw [cd9_f (fun f => h40 f.2)]; rfl
          unfold wJ_X9_gifts_118 wJ_X9_gifts_119 wJ_X9_gifts_135
          refine ⟨fun _ => ⟨fun _ v2 e2 => ?_, fun e => absurd rfl e⟩, fun e => absurd rfl e⟩
          rw [e2, nI_1]
          exact nxt M8 hF8 _ _ (by rw [hst]) (by rw [hst])
        rw [k19, k20]
        have h41 : (41 ≤ nI (a9 A c (dig ch))) ↔ 41 ≤ a9 A c (dig ch) := by
          rw [show (41 : Int32) = nI 41 from rfl]
          exact nI_leI (by decide) (by omega)
        cases hs : fo (cd9 A c d) ch with
        | none =>
          rw [hs] at no yes
          have hbt : btr none (a9 A c (dig ch)) (t9 A c (dig ch)) := fun y hy => by cases hy
          show (nI (a9 A c (dig ch)) < nI 41 → _) ∧ (¬ nI (a9 A c (dig ch)) < nI 41 → (¬ nI (a9 A c (dig ch)) = nI 41 → _) ∧ (nI (a9 A c (dig ch)) = nI 41 → _))
          rw [h41, nI_ltI (by omega) (by decide), nI_eq (by omega) (by decide)]
          refine ⟨fun y => yes hbt (by omega) _ _, fun y => ⟨fun y2 => no (Or.inr (by omega)), fun y2 => ⟨fun y3 => no (Or.inr (by omega)), fun y3 => absurd (by omega) y3⟩⟩⟩
        | some w =>
          obtain ⟨w1, w2⟩ := stb9 ch w hs
          have hbt : btr (some w) (a9 A c (dig ch)) (t9 A c (dig ch)) ↔ (a9 A c (dig ch) < w.1 ∨ (a9 A c (dig ch) = w.1 ∧ t9 A c (dig ch) < w.2)) := ⟨fun h => h w rfl, fun h y hy => by rw [← Option.some.inj hy]; exact h⟩
          rw [hs] at no yes
          show (nI (a9 A c (dig ch)) < nI w.1 → _) ∧ (¬ nI (a9 A c (dig ch)) < nI w.1 → (¬ nI (a9 A c (dig ch)) = nI w.1 → _) ∧ (nI (a9 A c (dig ch)) = nI w.1 → _ ∧ (_ → (nI w.2 ≤ nI (t9 A c (dig ch)) → _) ∧ (¬ nI w.2 ≤ nI (t9 A c (dig ch)) → _))))
          rw [h41, nI_ltI (by omega) (by omega), nI_eq (by omega) (by omega), nI_leI (by omega) (by omega)]
          refine ⟨fun y => yes (hbt.mpr (Or.inl y)) (by omega) _ _, fun y => ⟨fun y2 => no (Or.inl (fun e => by have := hbt.mp e; omega)), fun y2 => ⟨fun y3 => no (Or.inr (by omega)), fun y3 => ⟨fun y4 => no (Or.inl (fun e => by have := hbt.mp e; omega)), fun y4 => yes (hbt.mpr (Or.inr ⟨y2, by omega⟩)) (by omega) _ _⟩⟩⟩⟩
  exact ⟨730, go 729 0 (by omega) M (Fr_rf _ _)⟩
end G9
theorem S_gifts (M : Mem) (a b x : Int32) (A : Tn) (hC : RC M 41 A) (hM : RM M 0 A) (hV : V A) (h0 : M 85 15 = 0) : w_X8_gifts M a b x (fun r M1 => w_X9_gifts M1 a b x (fun r2 M2 => r = r2 ∧ Fr SScr M M2)) := by
  have hn := (V_np hV).2
  unfold w_X8_gifts
  refine P8 hC hV (fun c hc ec => br1 (D8 hC hV (fun d hd ed => br1 ?_) (fun hne => br0 ?_))) (fun hne => br0 ?_)
  · subst ec ed
    rw [W8w2]
    by_cases hx : isIx x 2
    · rw [bI_t hx]
      refine cr1 (W2_hold hC (by decide) hV hc hd (fun M10 hF10 hB => W5_gather (RC_bal hC (by decide) hF10) hV hc hd hB (fun M12 hF12 hS => ?_)))
      have hB12 : Bal M12 (np A) (bw A c d) (bv A c) := by
        unfold Bal at hB ⊢
        rw [hF12 29 2 (by omega)]
        refine ⟨hB.1, fun k hk => ?_⟩
        rw [hF12 30 k (by omega), hF12 31 k (by omega)]
        exact hB.2 k hk
      have hFw : ∀ M2, (∀ k j, ¬ (k = 37 ∧ (j = 4 ∨ j = 5)) → M2 k j = M12 k j) → Fr SW M M2 := by
        intro M2 h k j hk
        unfold SW at hk
        rw [h k j (by omega), hF12 k j (by omega), hF10 k j (fun e => hk (by have := bal_SW e; exact this))]
      have m9 : ∀ M2, Fr SW M M2 → ∀ R : Int32 → Mem → Prop, (Op A c d allA → R 0 M2) → (¬ Op A c d allA → ∃ n13 : Nat, wL_X9_gifts_52 R n13 M2 (nI c) (nI d) x 41 (-1000000) 0) → w_X9_gifts M2 (nI c) (nI d) x R := by
        intro M2 hF2 R r1 r0
        have hM2 := RM_SW hM hV hF2
        unfold w_X9_gifts
        refine P9 hM2 hV (fun p2 hp2 e => br1 (D9 hM2 hV (fun d2 hd2 e2 => br1 ?_) (fun h => absurd ⟨d, hd, rfl⟩ h))) (fun h => absurd ⟨c, hc, rfl⟩ h)
        rw [W9i1, bI_t hx]
        refine cr1 (W9_open0 (B := 0) hM2 (by decide) hV ((hF2 85 15 (by unfold SW; omega)).trans h0) hc hd ?_)
        by_cases ho : Op A c d allA
        · rw [bI_t ho]; exact br1 (r1 ho)
        · rw [bI_f ho]; exact br0 (r0 ho)
      refine W5_seek hV hc hd hB12 hS (fun ho M2 hF2 k4 k5 => ?_) (fun ho M2 hF2 k4 k5 => ?_)
      · have hF := hFw M2 hF2
        rw [k4, k5]
        have r : w_X9_gifts M2 (nI c) (nI d) x (fun r2 M2 => 0 = r2 ∧ Fr SScr M M2) := m9 M2 hF _ (fun _ => ⟨rfl, Fr_mono hF (fun k j h => SW_scr h)⟩) (fun h => absurd ho h)
        exact ⟨fun _ => r, fun _ => r⟩
      · have hF := hFw M2 hF2
        rw [k4, k5, fo_eq hV hd]
        have hM2 := RM_SW hM hV hF
        have hfr : ∀ M3, Fr S85 M2 M3 → Fr SScr M M3 := fun M3 h => Fr_tr (Fr_mono hF (fun k j h => SW_scr h)) (Fr_mono h (fun k j h => S85_scr h))
        refine ⟨fun z => m9 M2 hF _ (fun h => absurd h ho) (fun _ => Gf9 hM2 hV hc hd (fun M3 hF3 => ⟨fun y => absurd y z, fun _ => ⟨rfl, hfr M3 hF3⟩⟩)), fun z => m9 M2 hF _ (fun h => absurd h ho) (fun _ => Gf9 hM2 hV hc hd (fun M3 hF3 => ⟨fun _ => ⟨rfl, hfr M3 hF3⟩, fun y => absurd z y⟩))⟩
    · rw [bI_f hx]
      refine cr0 ?_
      unfold w_X9_gifts
      refine P9 hM hV (fun p2 hp2 e => br1 (D9 hM hV (fun d2 hd2 e2 => br1 ?_) (fun h => absurd ⟨d, hd, rfl⟩ h))) (fun h => absurd ⟨c, hc, rfl⟩ h)
      rw [W9i1, bI_f hx]
      exact cr0 ⟨rfl, Fr_rf _ _⟩
  · unfold w_X9_gifts
    exact P9 hM hV (fun p2 hp2 e => br1 (D9 hM hV (fun r2 hr2 e2 => absurd ⟨r2, hr2, e2⟩ hne) (fun h => br0 ⟨rfl, Fr_rf _ _⟩))) (fun h => absurd ⟨c, hc, ec⟩ h)
  · unfold w_X9_gifts
    exact P9 hM hV (fun p2 hp2 e => absurd ⟨p2, hp2, e⟩ hne) (fun h => br0 ⟨rfl, Fr_rf _ _⟩)
