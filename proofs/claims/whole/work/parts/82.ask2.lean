def mkV (A : Tn) (p : Nat) : Int32 := if na A 3 p = 2 then 2 * (nI p + A 5 p) else if na A 3 p = 3 then nI p + A 5 p - 1000 else nI p + A 5 p
def mkL (A : Tn) (p : Nat) : List Int32 := if na A 3 p = 2 then [24, 21, 20] else if na A 3 p = 3 then [22, 21, 20] else [21, 20]
def szV (A : Tn) (p : Nat) : Int32 := if na A 3 p = 2 then 0 - (nI (tsum A p) + mkV A p) else if na A 3 p = 4 then nI (tsum A p) - 100 else if na A 3 p = 5 then 2 * (nI (tsum A p) - 100) else nI (tsum A p) + mkV A p
def szL (A : Tn) (p : Nat) : List Int32 := if na A 3 p = 2 then 12 :: 11 :: 10 :: mkL A p else if na A 3 p = 4 then [13, 10] else if na A 3 p = 5 then [14, 13, 10] else 11 :: 10 :: mkL A p
theorem mkL_len (A : Tn) (p : Nat) : (mkL A p).length ≤ 3 := by
  unfold mkL
  split
  · decide
  · split <;> decide
theorem szL_len (A : Tn) (p : Nat) : (szL A p).length ≤ 6 := by
  have := mkL_len A p
  unfold szL
  split
  · simp only [List.length_cons]; omega
  · split
    · decide
    · split
      · decide
      · simp only [List.length_cons]; omega
section AC
variable {A : Tn} {p f d : Nat}
theorem AVM (hV : V A) (hp : p < np A) (hk : na A 3 p = 1 ∨ na A 3 p = 2 ∨ na A 3 p = 3) : AV A p (f + 4) (d + 3) 1 (mkL A p) (mkV A p) := by
  have e3 := (hV.2.2.1 p hp).1
  unfold mkL mkV
  rcases hk with k | k | k
  · rw [if_neg (by omega), if_neg (by omega), if_neg (by omega), if_neg (by omega)]
    rw [k] at e3
    exact Ans1 (f := f + 3) (d := d + 2) (k := 1) (w := 1) (b := 21) hV hp e3 (by decide) (by decide) (by decide) (G21 (f := f + 1) (d := d + 1) hV hp)
  · rw [if_pos k, if_pos k]
    rw [k] at e3
    exact Ans1 (f := f + 3) (d := d + 2) (k := 2) (w := 1) (b := 24) hV hp e3 (by decide) (by decide) (by decide) (G24 (f := f + 2) (d := d + 1) (G21 (f := f) (d := d) hV hp))
  · rw [if_neg (by omega), if_pos k, if_neg (by omega), if_pos k]
    rw [k] at e3
    exact Ans1 (f := f + 3) (d := d + 2) (k := 3) (w := 1) (b := 22) hV hp e3 (by decide) (by decide) (by decide) (G22 (f := f + 2) (d := d + 1) (G21 (f := f) (d := d) hV hp))
theorem AVS (hV : V A) (hp : p < np A) : AV A p (f + 7) (d + 6) 0 (szL A p) (szV A p) := by
  obtain ⟨e3, k1, k5, -⟩ := hV.2.2.1 p hp
  unfold szL szV
  rcases (by omega : na A 3 p = 1 ∨ na A 3 p = 2 ∨ na A 3 p = 3 ∨ na A 3 p = 4 ∨ na A 3 p = 5) with k | k | k | k | k
  · rw [if_neg (by omega), if_neg (by omega), if_neg (by omega), if_neg (by omega), if_neg (by omega), if_neg (by omega)]
    have hM := AVM (f := f + 1) (d := d + 1) hV hp (Or.inl k)
    rw [k] at e3
    exact Ans1 (f := f + 6) (d := d + 5) (k := 1) (w := 0) (b := 11) hV hp e3 (by decide) (by decide) (by decide) (G11 (f := f + 4) (d := d + 4) hV hp hM)
  · rw [if_pos k, if_pos k]
    have hM := AVM (f := f) (d := d) hV hp (Or.inr (Or.inl k))
    rw [k] at e3
    exact Ans1 (f := f + 6) (d := d + 5) (k := 2) (w := 0) (b := 12) hV hp e3 (by decide) (by decide) (by decide) (G12 (f := f + 5) (d := d + 4) (G11 (f := f + 3) (d := d + 3) hV hp hM))
  · rw [if_neg (by omega), if_neg (by omega), if_neg (by omega), if_neg (by omega), if_neg (by omega), if_neg (by omega)]
    have hM := AVM (f := f + 1) (d := d + 1) hV hp (Or.inr (Or.inr k))
    rw [k] at e3
    exact Ans2 (f := f + 6) (d := d + 5) (k := 3) (k2 := 1) (w := 0) (b := 11) hV hp e3 (by decide) (by decide) (by decide) (by decide) (by decide) (by decide) (G11 (f := f + 4) (d := d + 4) hV hp hM)
  · rw [if_neg (by omega), if_pos k, if_neg (by omega), if_pos k]
    rw [k] at e3
    exact Ans1 (f := f + 6) (d := d + 5) (k := 4) (w := 0) (b := 13) hV hp e3 (by decide) (by decide) (by decide) (G13 (f := f + 5) (d := d + 4) (G10 (f := f + 4) (d := d + 4) hV hp))
  · rw [if_neg (by omega), if_neg (by omega), if_pos k, if_neg (by omega), if_neg (by omega), if_pos k]
    rw [k] at e3
    exact Ans1 (f := f + 6) (d := d + 5) (k := 5) (w := 0) (b := 14) hV hp e3 (by decide) (by decide) (by decide) (G14 (f := f + 5) (d := d + 4) (G13 (f := f + 4) (d := d + 3) (G10 (f := f + 3) (d := d + 3) hV hp)))
theorem AVC (hV : V A) (hp : p < np A) (hk : na A 3 p = 4 ∨ na A 3 p = 5) : AV A p (f + 9) (d + 8) 1 (23 :: 20 :: szL A p) (nI p - szV A p) := by
  have e3 := (hV.2.2.1 p hp).1
  have hG := G23 (f := f + 6) (d := d + 6) (AVS (f := f) (d := d) hV hp)
  rcases hk with k | k
  · rw [k] at e3
    exact Ans1 (f := f + 8) (d := d + 7) (k := 4) (w := 1) (b := 23) hV hp e3 (by decide) (by decide) (by decide) hG
  · rw [k] at e3
    exact Ans2 (f := f + 8) (d := d + 7) (k := 5) (k2 := 4) (w := 1) (b := 23) hV hp e3 (by decide) (by decide) (by decide) (by decide) (by decide) (by decide) hG
end AC
section AR
variable {M : Mem} {A : Tn} {p n : Nat} {Q : Int32 → Mem → Prop}
theorem RM_lvs {L : List Int32} (h : RM M 0 A) (hV : V A) : RM (lvsR M n L) 0 A := RM_86 h hV (fun i => lvsR_o L M n _ _ (by omega) (by decide))
theorem lvR_n {b : Int32} : lvR M n b 85 11 = nI (n + 1) := by unfold lvR; rw [ms_eq]
theorem R_lS (hM : RM M 0 A) (hV : V A) (hp : p < np A) (h : M 85 11 = nI n) (hn : n < 16) (q : Q (nI (tsum A p)) (lvsR M n [10])) : w_X9_lentSize M (nI p) Q := by
  unfold w_X9_lentSize
  exact W9_begin hn h (W9_tsum (RM_lvs (L := [10]) hM hV) hV hp q)
theorem R_lM (h : M 85 11 = nI n) (hn : n < 16) (q : Q (nI p) (lvsR M n [20])) : w_X9_lentMark M (nI p) Q := by
  unfold w_X9_lentMark
  exact W9_begin hn h q
theorem R_pM (hM : RM M 0 A) (hV : V A) (hp : p < np A) (h : M 85 11 = nI n) (hn : n < 15) (q : Q (nI p + A 5 p) (lvsR M n [21, 20])) : w_X9_passersMark M (nI p) Q := by
  have hn6 := (V_np hV).2
  unfold w_X9_passersMark
  refine W9_begin (by omega) h (R_lM lvR_n (by omega) ?_)
  rw [show 30 + nI p = nI (30 + p) from lin2 30 p]
  intro v5 e5
  have k5 : lvsR (lvR M n 21) (n + 1) [20] 86 (30 + p) = A 5 p := RM0p (RM_lvs (L := [21, 20]) hM hV) hp (f := 5) (by decide) (by decide)
  rw [e5, ix_nat (by omega), k5]
  exact ⟨vp_in_nI (by omega) (by decide), q⟩
theorem R_mk (hM : RM M 0 A) (hV : V A) (hp : p < np A) (h : M 85 11 = nI n) (hn : n < 14) (q : Q (mkV A p) (lvsR M n (mkL A p))) : w_X9_mark M (nI p) Q := by
  have hn6 := (V_np hV).2
  obtain ⟨e3, k1, k5, -⟩ := hV.2.2.1 p hp
  unfold w_X9_mark
  rw [show 18 + nI p = nI (18 + p) from lin2 18 p]
  intro v1 ev1
  have k3 : M 86 (18 + p) = nI (na A 3 p) := (RM0p hM hp (f := 3) (by decide) (by decide)).trans e3
  rw [ev1, ix_nat (by omega), k3]
  refine ⟨vp_in_nI (by omega) (by decide), fun v3 ev3 => ?_⟩
  rw [ev3]
  unfold mkV mkL at q
  refine ⟨fun z => ?_, fun z => ?_, fun z2 z3 => ?_⟩
  · have z := nI_inj (b := 2) (by omega) (by decide) z
    rw [if_pos z, if_pos z] at q
    exact W9_begin (by omega) h (R_pM (RM_lvs (L := [24]) hM hV) hV hp lvR_n (by omega) q)
  · have z := nI_inj (b := 3) (by omega) (by decide) z
    rw [if_neg (by omega), if_pos z, if_neg (by omega), if_pos z] at q
    exact W9_begin (by omega) h (R_pM (RM_lvs (L := [22]) hM hV) hV hp lvR_n (by omega) q)
  · have y2 : na A 3 p ≠ 2 := fun e => z2 (by rw [e]; rfl)
    have y3 : na A 3 p ≠ 3 := fun e => z3 (by rw [e]; rfl)
    rw [if_neg y2, if_neg y3, if_neg y2, if_neg y3] at q
    exact R_pM hM hV hp h (by omega) q
theorem R_pS (hM : RM M 0 A) (hV : V A) (hp : p < np A) (h : M 85 11 = nI n) (hn : n < 12) (q : Q (nI (tsum A p) + mkV A p) (lvsR M n (11 :: 10 :: mkL A p))) : w_X9_passersSize M (nI p) Q := by
  unfold w_X9_passersSize
  refine W9_begin (by omega) h (R_lS (RM_lvs (L := [11]) hM hV) hV hp lvR_n (by omega) (R_mk (n := n + 2) (RM_lvs (L := [11, 10]) hM hV) hV hp ?_ (by omega) q))
  exact lvsR_n [10] _ _ lvR_n
theorem R_cS (hM : RM M 0 A) (hV : V A) (hp : p < np A) (h : M 85 11 = nI n) (hn : n < 15) (q : Q (nI (tsum A p) - 100) (lvsR M n [13, 10])) : w_X9_childrenSize M (nI p) Q := by
  unfold w_X9_childrenSize
  exact W9_begin (by omega) h (R_lS (RM_lvs (L := [13]) hM hV) hV hp lvR_n (by omega) q)
theorem R_sz (hM : RM M 0 A) (hV : V A) (hp : p < np A) (h : M 85 11 = nI n) (hn : n < 10) (q : Q (szV A p) (lvsR M n (szL A p))) : w_X9_sizeOf M (nI p) Q := by
  have hn6 := (V_np hV).2
  obtain ⟨e3, k1, k5, -⟩ := hV.2.2.1 p hp
  unfold w_X9_sizeOf
  rw [show 18 + nI p = nI (18 + p) from lin2 18 p]
  intro v1 ev1
  have k3 : M 86 (18 + p) = nI (na A 3 p) := (RM0p hM hp (f := 3) (by decide) (by decide)).trans e3
  rw [ev1, ix_nat (by omega), k3]
  refine ⟨vp_in_nI (by omega) (by decide), fun v3 ev3 => ?_⟩
  rw [ev3]
  unfold szV szL at q
  refine ⟨fun z => ?_, fun z => ?_, fun z => ?_, fun z => ?_, fun z2 z3 z4 z5 => ?_⟩
  · have z := nI_inj (b := 2) (by omega) (by decide) z
    rw [if_pos z, if_pos z] at q
    refine W9_begin (by omega) h (R_pS (RM_lvs (L := [12]) hM hV) hV hp lvR_n (by omega) ?_)
    rw [← Int32.zero_sub]
    exact q
  · have z := nI_inj (b := 3) (by omega) (by decide) z
    rw [if_neg (by omega), if_neg (by omega), if_neg (by omega), if_neg (by omega), if_neg (by omega), if_neg (by omega)] at q
    exact R_pS hM hV hp h (by omega) q
  · have z := nI_inj (b := 4) (by omega) (by decide) z
    rw [if_neg (by omega), if_pos z, if_neg (by omega), if_pos z] at q
    exact R_cS hM hV hp h (by omega) q
  · have z := nI_inj (b := 5) (by omega) (by decide) z
    rw [if_neg (by omega), if_neg (by omega), if_pos z, if_neg (by omega), if_neg (by omega), if_pos z] at q
    exact W9_begin (by omega) h (R_cS (RM_lvs (L := [14]) hM hV) hV hp lvR_n (by omega) q)
  · have y2 : na A 3 p ≠ 2 := fun e => z2 (by rw [e]; rfl)
    have y4 : na A 3 p ≠ 4 := fun e => z4 (by rw [e]; rfl)
    have y5 : na A 3 p ≠ 5 := fun e => z5 (by rw [e]; rfl)
    rw [if_neg y2, if_neg y4, if_neg y5, if_neg y2, if_neg y4, if_neg y5] at q
    exact R_pS hM hV hp h (by omega) q
theorem R_cM (hM : RM M 0 A) (hV : V A) (hp : p < np A) (h : M 85 11 = nI n) (hn : n < 8) (q : Q (nI p - szV A p) (lvsR M n (23 :: 20 :: szL A p))) : w_X9_childrenMark M (nI p) Q := by
  unfold w_X9_childrenMark
  refine W9_begin (by omega) h (R_lM lvR_n (by omega) (R_sz (n := n + 2) (RM_lvs (L := [23, 20]) hM hV) hV hp ?_ (by omega) q))
  exact lvsR_n [20] _ _ lvR_n
end AR
def STr (k j : Nat) : Prop := (k = 27 ∧ j = 1) ∨ k = 28 ∨ (k = 85 ∧ j = 11) ∨ k = 92
theorem ask_end {M : Mem} {L : List Int32} (hL : L.length ≤ 16) : ITrace (lvsR (ms (lvsC (ms M 27 1 0) 0 L) 85 11 0) 0 L) ∧ Fr STr M (lvsR (ms (lvsC (ms M 27 1 0) 0 L) 85 11 0) 0 L) := by
  have h27 : lvsC (ms M 27 1 0) 0 L 27 1 = nI (0 + L.length) := lvsC_n L _ 0 (by rw [ms_eq]; rfl)
  refine ⟨⟨L.length, hL, ?_, ?_, fun i hi => ?_⟩, fun k j hs => ?_⟩
  · rw [lvsR_o L _ _ _ _ (by omega) (by decide), ms_ne (by decide), h27, Nat.zero_add]
  · rw [lvsR_n L _ 0 (by rw [ms_eq]; rfl), Nat.zero_add]
  · rw [lvsR_o L _ _ 28 i (by omega) (by decide), ms_ne (by decide)]
    exact lvs_tr L _ _ 0 (fun j hj => absurd hj (by omega)) i (by omega)
  · unfold STr at hs
    rw [lvsR_o L _ _ k j (by omega) (by omega), ms_app, if_neg (by omega)]
    by_cases e : k = 27
    · subst e
      have : ∀ (L : List Int32) (N : Mem) (n : Nat), lvsC N n L 27 j = N 27 j := by
        intro L
        induction L with
        | nil => intro N n; rfl
        | cons b L ih =>
          intro N n
          show lvsC (lvC N n b) (n + 1) L 27 j = _
          rw [ih]
          unfold lvC
          rw [ms_ne2 (by omega), ms_ne (by decide)]
      rw [this, ms_ne2 (by omega)]
    · rw [lvsC_o L _ _ k j e (by omega), ms_ne e]
theorem S_ask (M : Mem) (a b : Int32) (A : Tn) (hC : RC M 41 A) (hM : RM M 0 A) (hV : V A) (hT : ITrace M) : w_X8_ask M a b (fun r M1 => w_X9_ask M1 a b (fun r2 M2 => r = r2 ∧ ITrace M2 ∧ Fr STr M M2)) := by
  have hn := (V_np hV).2
  unfold w_X8_ask
  refine P8 hC hV (fun p hp ep => br1 ?_) (fun hne => br0 ?_)
  · subst ep
    rw [W8w2]
    by_cases hx : isIx b 2
    · rw [bI_t hx]
      refine cr1 (fun M7 e7 => ?_)
      have hR7 : RC M7 41 A := by rw [e7]; exact RC_fr hC (fun f j hf => by rw [ms_ne (by omega)])
      have h27 : M7 27 1 = nI 0 := by rw [e7, ms_eq]; rfl
      obtain ⟨e3, k1, k5, -⟩ := hV.2.2.1 p hp
      have l1 := mkL_len A p
      have l2 := szL_len A p
      have m9 : ∀ (L : List Int32) (R : Int32 → Mem → Prop), (∀ N, N = ms (lvsC M7 0 L) 85 11 0 → RM N 0 A → N 85 11 = nI 0 → ((¬ b = 0 → w_X9_isOf N (nI p) 4 (fun r10 M9 => (r10 = 0 → w_X9_mark M9 (nI p) (fun r13 M12 => R r13 M12)) ∧ (¬ r10 = 0 → w_X9_childrenMark M9 (nI p) (fun r15 M14 => R r15 M14)))) ∧ (b = 0 → w_X9_sizeOf N (nI p) (fun r17 M16 => R r17 M16)))) → w_X9_ask (lvsC M7 0 L) (nI p) b R := by
        intro L R hR
        have hML : RM (lvsC M7 0 L) 0 A := RM_86 hM hV (fun i => by rw [lvsC_o L _ _ _ _ (by decide) (by decide), e7, ms_ne (by decide)])
        unfold w_X9_ask
        refine P9 hML hV (fun p2 hp2 e => br1 ?_) (fun h => absurd ⟨p, hp, rfl⟩ h)
        rw [W9i1, bI_t hx]
        refine cr1 (fun N eN => hR N eN ?_ ?_)
        · rw [eN]; exact RM_msS hML hV (by decide)
        · rw [eN, ms_eq]; rfl
      by_cases hb : b = 0
      · rw [hb]
        refine AVS (f := 13) (d := 0) hV hp M7 0 0 _ hR7 h27 (by omega) (by decide) ?_
        rw [← hb]
        refine m9 _ _ (fun N eN hMN hN => ⟨fun z => absurd hb z, fun _ => R_sz hMN hV hp hN (by decide) ?_⟩)
        rw [eN, e7]
        exact ⟨rfl, ask_end (by omega)⟩
      · have hb1 : b = 1 := by
          obtain ⟨j, hj, e⟩ := hx
          rcases (by omega : j = 0 ∨ j = 1) with h | h
          · exact absurd (by rw [e, h]; rfl) hb
          · rw [e, h]; rfl
        by_cases hk : na A 3 p = 4 ∨ na A 3 p = 5
        · rw [hb1]
          refine AVC (f := 11) (d := 0) hV hp hk M7 0 0 _ hR7 h27 (by simp only [List.length_cons]; omega) (by decide) ?_
          rw [← hb1]
          refine m9 _ _ (fun N eN hMN hN => ⟨fun _ => W9_ofK hMN hV hp ?_, fun z => absurd z hb⟩)
          rw [bI_t (show isK (na A 3 p) 4 from by
            rcases hk with h | h
            · exact Or.inr (Or.inl (by rw [h]; rfl))
            · exact Or.inr (Or.inr (Or.inr ⟨rfl, h⟩)))]
          refine br1 (R_cM hMN hV hp hN (by decide) ?_)
          rw [eN, e7]
          exact ⟨rfl, ask_end (by simp only [List.length_cons]; omega)⟩
        · rw [hb1]
          refine AVM (f := 16) (d := 0) hV hp (by omega) M7 0 0 _ hR7 h27 (by omega) (by decide) ?_
          rw [← hb1]
          refine m9 _ _ (fun N eN hMN hN => ⟨fun _ => W9_ofK hMN hV hp ?_, fun z => absurd z hb⟩)
          rw [bI_f (show ¬ isK (na A 3 p) 4 from by
            rintro (h | h | h | h)
            · exact absurd h (by decide)
            · have := nI_inj (a := 4) (by decide) (by omega) h
              omega
            · exact absurd h.1 (by decide)
            · omega)]
          refine br0 (R_mk hMN hV hp hN (by decide) ?_)
          rw [eN, e7]
          exact ⟨rfl, ask_end (by omega)⟩
    · rw [bI_f hx]
      refine cr0 ?_
      unfold w_X9_ask
      refine P9 hM hV (fun p2 hp2 e => br1 ?_) (fun h => absurd ⟨p, hp, rfl⟩ h)
      rw [W9i1, bI_f hx]
      exact cr0 ⟨rfl, hT, Fr_rf _ _⟩
  · unfold w_X9_ask
    exact P9 hM hV (fun p2 hp2 e => absurd ⟨p2, hp2, e⟩ hne) (fun h => br0 ⟨rfl, hT, Fr_rf _ _⟩)
