noncomputable def vc (A : Tn) (c d k : Nat) : Nat := fb_ct (vbk A c d) k
def SWi (M : Mem) (A : Tn) (c d i : Nat) : Prop := M 37 3 = nI (vc A c d i) ∧ ∀ k, k < i → vbk A c d k = true → M 38 (vc A c d k) = nI k ∧ ∀ o, o < 3 → M 39 (3 * vc A c d k + o) = nI (prc A c k o) ∧ M 40 (3 * vc A c d k + o) = nI (gn A c d k o)
theorem vc_lt {A : Tn} {c d k i : Nat} (h : k < i) (ho : vbk A c d k = true) : vc A c d k < vc A c d i := by
  have h1 : vc A c d (k + 1) = vc A c d k + 1 := by
    unfold vc
    rw [fb_ct_succ, if_pos ho]
  have h2 : vc A c d (k + 1) ≤ vc A c d i := fb_ct_mono _ h
  omega
theorem vc_le (A : Tn) (c d k : Nat) : vc A c d k ≤ k := fb_ct_le _ _
theorem ofI_neg {x : Int32} {z : Int} (h : x.toInt = z) (h1 : z ≤ 0) (h2 : -1000 ≤ z) : -x = nI (-z).toNat := by
  rw [fa_eq, fb_negI (by omega), nI_toInt (by omega), h]
  omega
theorem ofI_1m {x : Int32} {z : Int} (h : x.toInt = z) (h1 : z ≤ 1) (h2 : -1000 ≤ z) : 1 - x = nI (1 - z).toNat := by
  have o1 : (1 : Int32).toInt = 1 := by decide
  rw [fa_eq, fb_subI (by omega) (by omega), nI_toInt (by omega), h]
  omega
section SWY2
variable {M : Mem} {A : Tn} {c d : Nat}
theorem W5_offer {v i : Nat} {p1 g2 : Nat} {x2 x3 : Int32} {w p2 : Nat} {Q : Mem → Prop} (hv : v < 6) (h37 : M 37 3 = nI v) (h1 : (0 ≤ x3 → p1 = 21 ∧ g2 = w) ∧ (¬ 0 ≤ x3 → -x2 = nI p1 ∧ g2 = 2 * w)) (h2 : 1 - x2 = nI p2) (q : ∀ M2 : Mem, (∀ k j, ¬ (k = 37 ∧ j = 3) → ¬ (k = 38 ∧ j = v) → ¬ ((k = 39 ∨ k = 40) ∧ 3 * v ≤ j ∧ j ≤ 3 * v + 2) → M2 k j = M k j) → M2 37 3 = nI (v + 1) → M2 38 v = nI i → M2 39 (3 * v) = 0 → M2 39 (3 * v + 1) = nI p1 → M2 39 (3 * v + 2) = nI p2 → M2 40 (3 * v) = 0 → M2 40 (3 * v + 1) = nI w → M2 40 (3 * v + 2) = nI g2 → Q M2) : w_X5_offer M (nI i) x2 x3 (nI w) Q := by
  have e3 : nI v * 3 = nI (3 * v) := by rw [show (3 : Int32) = nI 3 from rfl, pk_mul, Nat.mul_comm]
  have fin : ∀ M7 : Mem, M7 = ms (ms (ms M 38 v (nI i)) 39 (3 * v) 0) 40 (3 * v) 0 → ∀ s2 : Int32, s2 = nI p1 → (0 ≤ x3 → g2 = w) → (¬ 0 ≤ x3 → g2 = 2 * w) → wJ_X5_offer_53 Q M7 x2 x3 (nI w) (nI (3 * v)) (nI (3 * v + 1)) s2 := by
    intro M7 e7 s2 es2 hg1 hg2
    unfold wJ_X5_offer_53
    rw [nI_1, show nI (3 * v) + 2 = nI (3 * v + 2) from nI_add _ 2, ix_nat (by omega), ix_nat (by omega), h2]
    refine ⟨vp_in_nI (by omega) (by decide), fun M2 e2 => ⟨vp_in_nI (by omega) (by decide), fun M4 e4 v5 e5 => ⟨vp_in_nI (by omega) (by decide), fun M7' e7' => ?_⟩⟩⟩
    have k37 : ∀ x, ms M7' 40 (3 * v + 2) x 37 3 = nI v := by
      intro x
      rw [ms_ne (by decide), e7', ms_ne (by decide), e4, ms_ne (by decide), e2, ms_ne (by decide), e7, ms_ne (by decide), ms_ne (by decide), ms_ne (by decide), h37]
    have fin2 : ∀ M12 : Mem, M12 = ms (ms M7' 40 (3 * v + 2) (nI g2)) 37 3 (nI (v + 1)) → Q M12 := by
      intro M12 e12
      have hall : ∀ k j, M12 k j = if k = 37 ∧ j = 3 then nI (v + 1) else if k = 40 ∧ j = 3 * v + 2 then nI g2 else if k = 39 ∧ j = 3 * v + 2 then nI p2 else if k = 40 ∧ j = 3 * v + 1 then nI w else if k = 39 ∧ j = 3 * v + 1 then nI p1 else if k = 40 ∧ j = 3 * v then 0 else if k = 39 ∧ j = 3 * v then 0 else if k = 38 ∧ j = v then nI i else M k j := by
        intro k j
        rw [e12, e7', e4, e2, e7, e5, es2]
        simp only [ms_app]
      refine q M12 (fun k j n1 n2 n3 => ?_) ?_ ?_ ?_ ?_ ?_ ?_ ?_ ?_
      · rw [hall, if_neg n1, if_neg (by omega), if_neg (by omega), if_neg (by omega), if_neg (by omega), if_neg (by omega), if_neg (by omega), if_neg n2]
      · rw [hall, if_pos ⟨rfl, rfl⟩]
      · rw [hall, if_neg (by omega), if_neg (by omega), if_neg (by omega), if_neg (by omega), if_neg (by omega), if_neg (by omega), if_neg (by omega), if_pos ⟨rfl, rfl⟩]
      · rw [hall, if_neg (by omega), if_neg (by omega), if_neg (by omega), if_neg (by omega), if_neg (by omega), if_neg (by omega), if_pos ⟨rfl, rfl⟩]
      · rw [hall, if_neg (by omega), if_neg (by omega), if_neg (by omega), if_neg (by omega), if_pos ⟨rfl, rfl⟩]
      · rw [hall, if_neg (by omega), if_neg (by omega), if_pos ⟨rfl, rfl⟩]
      · rw [hall, if_neg (by omega), if_neg (by omega), if_neg (by omega), if_neg (by omega), if_neg (by omega), if_pos ⟨rfl, rfl⟩]
      · rw [hall, if_neg (by omega), if_neg (by omega), if_neg (by omega), if_pos ⟨rfl, rfl⟩]
      · rw [hall, if_neg (by omega), if_pos ⟨rfl, rfl⟩]
    refine ⟨fun z => ⟨vp_in_nI (by omega) (by decide), fun M10 e10 v11 e11 M12 e12 => ?_⟩, fun z v13 e13 => ⟨vp_in_nI (by omega) (by decide), fun M15 e15 v16 e16 M17 e17 => ?_⟩⟩
    · refine fin2 M12 ?_
      rw [e10, k37, nI_1] at e11
      rw [e12, e11, e10, hg1 z]
    · refine fin2 M17 ?_
      rw [show (2 : Int32) = nI 2 from rfl, pk_mul] at e13
      rw [e15, k37, nI_1] at e16
      rw [e17, e16, e15, e13, hg2 z]
  unfold w_X5_offer
  rw [h37, e3, ix_nat (by omega)]
  intro v1 e1
  rw [e1, ix_nat (by omega), nI_1]
  refine ⟨vp_in_nI hv (by decide), fun M3 e3' => ⟨vp_in_nI (by omega) (by decide), fun M5 e5 => ⟨vp_in_nI (by omega) (by decide), fun M7 e7 => ⟨fun z => ?_, fun z => ?_⟩⟩⟩⟩
  · exact fin M7 (by rw [e7, e5, e3']) 21 (by rw [(h1.1 z).1]; rfl) (fun _ => (h1.1 z).2) (fun y => absurd z y)
  · exact fin M7 (by rw [e7, e5, e3']) (-x2) (h1.2 z).1 (fun y => absurd y z) (fun _ => (h1.2 z).2)
theorem W5_gather {Q : Mem → Prop} (hC : RC M 41 A) (hV : V A) (hc : c < np A) (hd : d < nd A) (hB : Bal M (np A) (bw A c d) (bv A c)) (q : ∀ M2, (∀ k j, ¬ (37 ≤ k ∧ k ≤ 40) → M2 k j = M k j) → SWi M2 A c d (np A) → Q M2) : w_X5_gather 41 M (nI c) Q := by
  have hn := (V_np hV).2
  have e3 : M 41 3 = nI (np A) := (hC.1 3 (by decide)).trans (V_np hV).1
  have go : ∀ m i : Nat, i + m = np A → ∀ M1, (∀ k j, ¬ (37 ≤ k ∧ k ≤ 40) → M1 k j = M k j) → SWi M1 A c d i → wL_X5_gather_8 41 Q (m + 1) M1 (nI c) (nI i) := by
    intro m
    induction m with
    | zero =>
      intro i hi M1 hF hS
      have hi : i = np A := by omega
      subst hi
      exact ⟨fun _ => q M1 hF hS, fun e => absurd (by rw [hF 41 3 (by omega), e3]; exact nI_le (Nat.le_refl _) (by omega)) e⟩
    | succ m ih =>
      intro i hi M1 hF hS
      refine ⟨fun e => absurd e (by rw [hF 41 3 (by omega), e3]; exact nI_ge (by omega) (by omega)), fun _ => ?_⟩
      have hin : vp_in (nI i) 6 := vp_in_nI (by omega) (by decide)
      obtain ⟨b30, b31⟩ := hB.2 i (by omega)
      have skip : ¬ vbk A c d i = true → wL_X5_gather_8 41 Q (m + 1) M1 (nI c) (nI (i + 1)) := by
        intro hv
        have hs : vc A c d (i + 1) = vc A c d i := by
          unfold vc
          rw [fb_ct_succ, if_neg hv, Nat.add_zero]
        refine ih (i + 1) (by omega) M1 hF ⟨by rw [hs]; exact hS.1, fun k hk hvk => ?_⟩
        have : k ≠ i := fun e => hv (e ▸ hvk)
        exact hS.2 k (by omega) hvk
      refine ⟨fun z v3 ev3 => ?_, fun z => ⟨hin, ?_⟩⟩
      · have he : i = c := nI_inj (by omega) (by omega) z
        rw [ev3, nI_1]
        exact skip (fun h => vbk_c h he)
      · have hne : i ≠ c := fun e => z (by rw [e])
        have hw := bw_le hV (c := c) (d := d) (k := i) (by omega) hd
        rw [ix_nat (by omega), hF 30 i (by omega), hF 31 i (by omega), b30, b31, nI_le0 (by omega)]
        refine ⟨fun z1 v6 ev6 => ?_, fun z1 => ⟨hin, ?_⟩⟩
        · rw [ev6, nI_1]
          exact skip (fun h => by have := (vbk_t.mp h).1; omega)
        · have hb3 := bv_3 A c i
          rw [ofI_pos (by omega) (by omega)]
          refine ⟨fun z2 v9 ev9 => ?_, fun z2 => ?_⟩
          · rw [ev9, nI_1]
            exact skip (fun h => by have := (vbk_t.mp h).2; omega)
          · have hv : vbk A c d i = true := vbk_t.mpr ⟨by omega, by omega⟩
            refine W6_lean (RC_fr hC (fun f j hf => hF _ _ (by omega))) hV (by omega) ⟨hin, hin, ?_⟩
            rw [hF 30 i (by omega), hF 31 i (by omega), b30, b31]
            have hlb := lx_b (c := c) hV (show i < np A by omega)
            have hvl := vbk_l hv
            have hle := vc_le A c d i
            have hbs : (0 ≤ Int32.ofInt (bv A c i)) ↔ bv A c i = 0 := by
              have hz0 : (0 : Int32).toInt = 0 := by decide
              rw [fa_le, hz0, fb_ofI (by omega) (by omega)]
              omega
            refine W5_offer (v := vc A c d i) (p1 := prc A c i 1) (g2 := gn A c d i 2) (p2 := prc A c i 2) (by omega) hS.1 ⟨fun y => ?_, fun y => ?_⟩ ?_ (fun M2 hF2 k37 k38 k390 k391 k392 k400 k401 k402 v16 ev16 => ?_)
            · have y := hbs.mp y
              unfold prc gn
              rw [if_neg (by decide), if_pos rfl, if_neg (by omega), if_neg (by decide), if_neg (by decide), if_neg (by omega)]
              exact ⟨rfl, rfl⟩
            · have y : bv A c i = -1 := by
                have : ¬ bv A c i = 0 := fun e => y (hbs.mpr e)
                omega
              unfold prc gn
              rw [if_neg (by decide), if_pos rfl, if_pos y, if_neg (by decide), if_neg (by decide), if_pos y]
              refine ⟨?_, rfl⟩
              rw [ofI_neg (z := lx A c i) rfl (by omega) (by omega), gft_s hne (by decide)]
              congr 1
              omega
            · unfold prc
              rw [if_neg (by decide), if_neg (by decide), gft_s hne (by decide), ofI_1m (z := lx A c i) rfl (by omega) (by omega)]
              congr 1
            · rw [ev16, nI_1]
              have hs : vc A c d (i + 1) = vc A c d i + 1 := by
                unfold vc
                rw [fb_ct_succ, if_pos hv]
              refine ih (i + 1) (by omega) M2 (fun k j hk => (hF2 k j (by omega) (by omega) (by omega)).trans (hF k j hk)) ⟨by rw [hs]; exact k37, fun k hk hvk => ?_⟩
              by_cases e : k = i
              · subst e
                refine ⟨k38, fun o ho => ?_⟩
                rcases (by omega : o = 0 ∨ o = 1 ∨ o = 2) with eo | eo | eo <;> subst eo
                · exact ⟨k390, k400⟩
                · refine ⟨k391, ?_⟩
                  rw [k401]
                  unfold gn
                  rw [if_neg (by decide), if_pos rfl]
                · exact ⟨k392, k402⟩
              · have hlt := vc_lt (show k < i by omega) hvk
                obtain ⟨s1, s2⟩ := hS.2 k (by omega) hvk
                refine ⟨by rw [hF2 _ _ (by omega) (by omega) (by omega)]; exact s1, fun o ho => ?_⟩
                rw [hF2 39 _ (by omega) (by omega) (by omega), hF2 40 _ (by omega) (by omega) (by omega)]
                exact s2 o ho
  unfold w_X5_gather
  intro M1 e1
  refine ⟨np A + 1, go (np A) 0 (by omega) M1 (fun k j hk => ?_) ⟨?_, fun k hk => absurd hk (by omega)⟩⟩
  · rw [e1, ms_ne (by omega)]
  · rw [e1, ms_eq]; rfl
end SWY2
