noncomputable def wb (A : Tn) (c d b k : Nat) : Nat := dig b (vc A c d k)
noncomputable def cd8 (A : Tn) (c d b : Nat) : Option (Nat × Nat) := @ite _ (F8 A c d (wb A c d b)) (Classical.propDecidable _) (some (a8 A c d (wb A c d b), t8 A c d (wb A c d b))) none
theorem cd8_t {A : Tn} {c d b : Nat} (h : F8 A c d (wb A c d b)) : cd8 A c d b = some (a8 A c d (wb A c d b), t8 A c d (wb A c d b)) := @if_pos _ (Classical.propDecidable _) h _ _ _
theorem cd8_f {A : Tn} {c d b : Nat} (h : ¬ F8 A c d (wb A c d b)) : cd8 A c d b = none := @if_neg _ (Classical.propDecidable _) h _ _ _
def q4 (st : Option (Nat × Nat)) : Int32 := match st with | none => -1000000 | some x => nI x.1
def q5 (st : Option (Nat × Nat)) : Int32 := match st with | none => -1000000 | some x => nI x.2
def stb (st : Option (Nat × Nat)) : Prop := ∀ x, st = some x → 1 ≤ x.1 ∧ x.1 ≤ 40 ∧ x.2 < 64
def btr (st : Option (Nat × Nat)) (a t : Nat) : Prop := ∀ y, st = some y → a < y.1 ∨ (a = y.1 ∧ t < y.2)
theorem upd2_t {st : Option (Nat × Nat)} {a t : Nat} (h : btr st a t) : upd2 st (some (a, t)) = some (a, t) := by
  cases st with
  | none => rfl
  | some y =>
    show (if a < y.1 ∨ (a = y.1 ∧ t < y.2) then _ else _) = _
    rw [if_pos (h y rfl)]
theorem upd2_f {st : Option (Nat × Nat)} {a t : Nat} (h : ¬ btr st a t) : upd2 st (some (a, t)) = st := by
  cases st with
  | none => exact absurd (fun y hy => by cases hy) h
  | some y =>
    show (if a < y.1 ∨ (a = y.1 ∧ t < y.2) then _ else _) = _
    rw [if_neg (fun e => h (fun z hz => by rw [← Option.some.inj hz]; exact e))]
theorem msk_or {p q : Nat → Bool} {n k : Nat} (hk : k < n) (h : ∀ j, j < n → q j = if j = k then true else p j) : msk p n ||| 2 ^ k = msk q n := by
  refine Nat.eq_of_testBit_eq (fun x => ?_)
  rw [Nat.testBit_or, msk_bit, msk_bit, Nat.testBit_two_pow]
  by_cases hx : x < n
  · rw [decide_eq_true hx, Bool.true_and, Bool.true_and, h x hx]
    by_cases e : x = k
    · rw [if_pos e, decide_eq_true e.symm, Bool.or_true]
    · rw [if_neg e, decide_eq_false (fun z => e z.symm), Bool.or_false]
  · rw [decide_eq_false hx, Bool.false_and, Bool.false_and, decide_eq_false (by omega), Bool.or_false]
theorem sm_add1 {f g : Nat → Nat} {n k v : Nat} (hk : k < n) (h0 : f k = 0) (h : ∀ j, j < n → g j = if j = k then v else f j) : fb_sm g n = fb_sm f n + v := by
  have h1 := fb_sm_upd f v hk
  rw [h0, Nat.add_zero] at h1
  rw [← h1]
  exact fb_sm_cong h
section WG
variable {M : Mem} {A : Tn} {c d : Nat}
theorem prc_le (hV : V A) {k : Nat} (hk : k < np A) (o : Nat) : prc A c k o ≤ 30 := by
  have h := lx_b (c := c) hV hk
  have hg : ∀ o, o < 3 → gft A c k o ≤ 30 := by
    intro o ho
    unfold gft
    split
    · omega
    · split
      · omega
      · omega
  unfold prc
  split
  · omega
  · split
    · split
      · exact hg 1 (by decide)
      · omega
    · exact hg 2 (by decide)
theorem gn_le (hV : V A) (hd : d < nd A) {k : Nat} (hk : k < np A) (o : Nat) : gn A c d k o ≤ 216 := by
  have h := bw_le hV (c := c) hk hd
  unfold gn
  split
  · omega
  · split
    · omega
    · split <;> omega
theorem mrg_b (hV : V A) (hd : d < nd A) : -1000 ≤ mrg A c d ∧ mrg A c d ≤ 1000 := by
  have h := sMar_b (aw := allA) (V_np hV).2 (fun k hk => bw_le hV (c := c) hk hd) (bv_3 A c)
  have e : sMar (bw A c d) (bv A c) allA (np A) = mrg A c d := by
    unfold sMar mrg
    exact fb_si_cong (fun k _ => if_pos rfl)
  rw [← e]; exact h
theorem W5_weigh {b : Nat} {st : Option (Nat × Nat)} {Q : Mem → Prop} (hV : V A) (hd : d < nd A) (hS : SWi M A c d (np A)) (hb : b < 729) (h4 : M 37 4 = q4 st) (h5 : M 37 5 = q5 st) (hst : stb st) (q : ∀ M2, (∀ k j, ¬ (k = 37 ∧ (j = 4 ∨ j = 5)) → M2 k j = M k j) → M2 37 4 = q4 (upd2 st (cd8 A c d b)) → M2 37 5 = q5 (upd2 st (cd8 A c d b)) → Q M2) : w_X5_weigh M (nI b) (Int32.ofInt (1 - mrg A c d)) Q := by
  have hn := (V_np hV).2
  have hmb := mrg_b (c := c) hV hd
  have hv6 := vc_le A c d (np A)
  have same : cd8 A c d b = none → Q M := by
    intro e
    refine q M (fun _ _ _ => rfl) ?_ ?_
    · rw [e]; exact h4
    · rw [e]; exact h5
  have a30 : ∀ (f : Nat → Nat) (C : Nat), (∀ k, k < np A → f k ≤ C) → fb_sm f (np A) ≤ 6 * C := by
    intro f C h
    exact Nat.le_trans (fb_sm_bound h) (Nat.mul_le_mul_right C hn)
  have go : ∀ m j : Nat, j + m = vc A c d (np A) → (∀ k, k < np A → vbk A c d k = true → vc A c d k < j → prc A c k (wb A c d b k) ≤ 20) → wL_X5_weigh_14 Q (m + 1) M (Int32.ofInt (1 - mrg A c d)) (nI (rst b j)) (nI (fb_sm (fun k => if vbk A c d k && decide (vc A c d k < j) then prc A c k (wb A c d b k) else 0) (np A))) (nI (fb_sm (fun k => if vbk A c d k && decide (vc A c d k < j) then gn A c d k (wb A c d b k) else 0) (np A))) (nI (msk (fun k => vbk A c d k && decide (vc A c d k < j) && decide (0 < prc A c k (wb A c d b k))) (np A))) (nI j) := by
    intro m
    induction m with
    | zero =>
      intro j hj hpr
      have hj : j = vc A c d (np A) := by omega
      have ea : fb_sm (fun k => if vbk A c d k && decide (vc A c d k < j) then prc A c k (wb A c d b k) else 0) (np A) = a8 A c d (wb A c d b) := by
        unfold a8
        refine fb_sm_cong (fun k hk => ?_)
        cases hv : vbk A c d k with
        | false => rw [Bool.false_and]
        | true => rw [decide_eq_true (by rw [hj]; exact vc_lt hk hv), Bool.and_true]
      have eg : fb_sm (fun k => if vbk A c d k && decide (vc A c d k < j) then gn A c d k (wb A c d b k) else 0) (np A) = g8 A c d (wb A c d b) := by
        unfold g8
        refine fb_sm_cong (fun k hk => ?_)
        cases hv : vbk A c d k with
        | false => rw [Bool.false_and]
        | true => rw [decide_eq_true (by rw [hj]; exact vc_lt hk hv), Bool.and_true]
      have et : msk (fun k => vbk A c d k && decide (vc A c d k < j) && decide (0 < prc A c k (wb A c d b k))) (np A) = t8 A c d (wb A c d b) := by
        unfold t8
        refine msk_cong (fun k hk => ?_)
        cases hv : vbk A c d k with
        | false => rw [Bool.false_and]
        | true => rw [decide_eq_true (by rw [hj]; exact vc_lt hk hv), Bool.and_true]
      rw [ea, eg, et]
      have la : a8 A c d (wb A c d b) ≤ 180 := a30 _ 30 (fun k hk => by
        show (if vbk A c d k then prc A c k (wb A c d b k) else 0) ≤ 30
        split
        · exact prc_le hV hk _
        · omega)
      have lg : g8 A c d (wb A c d b) ≤ 1296 := a30 _ 216 (fun k hk => by
        show (if vbk A c d k then gn A c d k (wb A c d b k) else 0) ≤ 216
        split
        · exact gn_le hV hd hk _
        · omega)
      have lt : t8 A c d (wb A c d b) < 64 := Nat.lt_of_lt_of_le (msk_lt _ _) (Nat.pow_le_pow_right (by decide) hn)
      have hpa : ∀ k, k < np A → vbk A c d k = true → prc A c k (wb A c d b k) ≤ 20 := fun k hk hv => hpr k hk hv (by rw [hj]; exact vc_lt hk hv)
      have hneed : (nI (g8 A c d (wb A c d b)) < Int32.ofInt (1 - mrg A c d)) ↔ ¬ 1 ≤ mrg A c d + (g8 A c d (wb A c d b) : Int) := by
        rw [fa_lt, nI_toInt (by omega), fb_ofI (by omega) (by omega)]
        omega
      have h40 : (40 < nI (a8 A c d (wb A c d b))) ↔ ¬ a8 A c d (wb A c d b) ≤ 40 := by
        rw [show (40 : Int32) = nI 40 from rfl, nI_ltI (by decide) (by omega)]
        omega
      have j149 : ∀ s0 : Int32, (s0 = 0 ↔ ¬ btr st (a8 A c d (wb A c d b)) (t8 A c d (wb A c d b))) → wJ_X5_weigh_149 Q M (Int32.ofInt (1 - mrg A c d)) (nI (a8 A c d (wb A c d b))) (nI (g8 A c d (wb A c d b))) (nI (t8 A c d (wb A c d b))) s0 := by
        intro s0 hs0
        unfold wJ_X5_weigh_149
        rw [hneed, h40]
        refine ⟨fun z => same (cd8_f (fun f => z f.2.2)), fun z => ⟨fun z2 => same (cd8_f (fun f => z2 f.2.1)), fun z2 => ?_⟩⟩
        have hF : F8 A c d (wb A c d b) := ⟨hpa, Classical.not_not.mp z2, Classical.not_not.mp z⟩
        have hcd := cd8_t hF
        refine ⟨fun z3 => ?_, fun z3 M4 e4 M5 e5 => ?_⟩
        · refine q M (fun _ _ _ => rfl) ?_ ?_
          · rw [hcd, upd2_f (hs0.mp z3)]; exact h4
          · rw [hcd, upd2_f (hs0.mp z3)]; exact h5
        · have hbt : btr st (a8 A c d (wb A c d b)) (t8 A c d (wb A c d b)) := Classical.byContradiction (fun hc => z3 (hs0.mpr hc))
          refine q M5 (fun k j hk => ?_) ?_ ?_
          · rw [e5, ms_app, if_neg (by omega), e4, ms_app, if_neg (by omega)]
          · rw [hcd, upd2_t hbt, e5, ms_ne2 (by decide), e4, ms_eq]; rfl
          · rw [hcd, upd2_t hbt, e5, ms_eq]; rfl
      have yes : btr st (a8 A c d (wb A c d b)) (t8 A c d (wb A c d b)) → wJ_X5_weigh_144 Q M (Int32.ofInt (1 - mrg A c d)) (nI (a8 A c d (wb A c d b))) (nI (g8 A c d (wb A c d b))) (nI (t8 A c d (wb A c d b))) := fun h => j149 1 ⟨fun e => absurd e (by decide), fun e => absurd h e⟩
      have no : ¬ btr st (a8 A c d (wb A c d b)) (t8 A c d (wb A c d b)) → wJ_X5_weigh_148 Q M (Int32.ofInt (1 - mrg A c d)) (nI (a8 A c d (wb A c d b))) (nI (g8 A c d (wb A c d b))) (nI (t8 A c d (wb A c d b))) := fun h => j149 0 ⟨fun _ => h, fun _ => rfl⟩
      refine ⟨fun _ => ?_, fun e => absurd (by rw [hS.1, hj]; exact nI_le (Nat.le_refl _) (by omega)) e⟩
      rw [h4, h5]
      cases hs : st with
      | none =>
        exact ⟨fun _ => yes (fun y hy => by rw [hs] at hy; cases hy), fun e => absurd rfl e⟩
      | some y =>
        obtain ⟨y1, y2, y3⟩ := hst y hs
        have hb2 : btr st (a8 A c d (wb A c d b)) (t8 A c d (wb A c d b)) ↔ (a8 A c d (wb A c d b) < y.1 ∨ (a8 A c d (wb A c d b) = y.1 ∧ t8 A c d (wb A c d b) < y.2)) := ⟨fun h => h y hs, fun h z hz => by
          rw [hs] at hz
          rw [← Option.some.inj hz]; exact h⟩
        refine ⟨fun e => absurd e (nI_none (by omega)), fun _ => ?_⟩
        show (nI (a8 A c d (wb A c d b)) < nI y.1 → _) ∧ (¬ nI (a8 A c d (wb A c d b)) < nI y.1 → (¬ nI (a8 A c d (wb A c d b)) = nI y.1 → _) ∧ (nI (a8 A c d (wb A c d b)) = nI y.1 → (nI y.2 ≤ nI (t8 A c d (wb A c d b)) → _) ∧ (¬ nI y.2 ≤ nI (t8 A c d (wb A c d b)) → _)))
        rw [nI_ltI (by omega) (by omega), nI_eq (by omega) (by omega), nI_leI (by omega) (by omega)]
        exact ⟨fun z => yes (hb2.mpr (Or.inl z)), fun z => ⟨fun z2 => no (fun e => by have := hb2.mp e; omega), fun z2 => ⟨fun z3 => no (fun e => by have := hb2.mp e; omega), fun z3 => yes (hb2.mpr (Or.inr ⟨z2, by omega⟩))⟩⟩⟩
    | succ m ih =>
      intro j hj hpr
      refine ⟨fun e => absurd e (by rw [hS.1]; exact nI_ge (by omega) (by omega)), fun _ => ?_⟩
      obtain ⟨k, hk, hv, ek⟩ := fb_ct_kth (p := vbk A c d) (k := j) (n := np A) (show j < vc A c d (np A) by omega)
      have ek : vc A c d k = j := ek
      obtain ⟨s38, s39⟩ := hS.2 k hk hv
      have hdl := dig_lt b j
      have hwb : wb A c d b k = dig b j := by unfold wb; rw [ek]
      obtain ⟨s391, s401⟩ := s39 (dig b j) hdl
      rw [ek] at s38 s391 s401
      have hrl := rst_le b j
      have ew : nI j * 3 + (nI (rst b j) - nI (rst b j) / 3 * 3) = nI (3 * j + dig b j) := by
        rw [show (3 : Int32) = nI 3 from rfl, pk_mul, pk_rem (by omega) (by decide) (by decide), nI_add, Nat.mul_comm]
        rfl
      have er : nI (rst b j) / 3 = nI (rst b (j + 1)) := pk_div (d := 3) (by omega) (by decide) (by decide)
      rw [ew, er]
      intro v6 e6 v7 e7
      have hin : vp_in (nI (3 * j + dig b j)) 18 := vp_in_nI (by omega) (by decide)
      have hp30 := prc_le (c := c) hV hk (dig b j)
      rw [e6, ix_nat (by omega), s391, s401]
      refine ⟨hin, fun z => ⟨hin, fun v11 e11 => ⟨hin, fun v13 e13 => ⟨hin, ?_⟩⟩⟩, fun z => ?_⟩
      · have z : prc A c k (dig b j) ≤ 20 := (nI_leI (b := 20) (by omega) (by decide)).mp z
        have hpr2 : ∀ k, k < np A → vbk A c d k = true → vc A c d k < j + 1 → prc A c k (wb A c d b k) ≤ 20 := by
          intro k' hk' hv' hlt
          by_cases e : vc A c d k' = j
          · have : k' = k := fb_ct_kth_one (p := vbk A c d) hv' hv (e.trans ek.symm)
            rw [this, hwb]; exact z
          · exact hpr k' hk' hv' (by omega)
        have hbit : ∀ k', k' < np A → (vbk A c d k' && decide (vc A c d k' < j + 1)) = if k' = k then true else (vbk A c d k' && decide (vc A c d k' < j)) := by
          intro k' hk'
          by_cases e : k' = k
          · rw [if_pos e, e, hv, ek, decide_eq_true (by omega)]
            rfl
          · rw [if_neg e]
            cases hv' : vbk A c d k' with
            | false => rw [Bool.false_and, Bool.false_and]
            | true =>
              have : vc A c d k' ≠ j := fun e2 => e (fb_ct_kth_one (p := vbk A c d) hv' hv (e2.trans ek.symm))
              rw [decide_eq_decide.mpr (show vc A c d k' < j + 1 ↔ vc A c d k' < j by omega)]
        have hold : (vbk A c d k && decide (vc A c d k < j)) = false := by
          rw [ek, decide_eq_false (by omega), Bool.and_false]
        have hsum : ∀ (F : Nat → Nat → Nat), fb_sm (fun k => if vbk A c d k && decide (vc A c d k < j + 1) then F k (wb A c d b k) else 0) (np A) = fb_sm (fun k => if vbk A c d k && decide (vc A c d k < j) then F k (wb A c d b k) else 0) (np A) + F k (dig b j) := by
          intro F
          refine sm_add1 hk ?_ (fun k' hk' => ?_)
          · show (if vbk A c d k && decide (vc A c d k < j) then _ else _) = _
            rw [hold, if_neg (by decide)]
          · show (if vbk A c d k' && decide (vc A c d k' < j + 1) then _ else _) = _
            rw [hbit k' hk']
            by_cases e : k' = k
            · rw [if_pos e, if_pos e, if_pos rfl, e, hwb]
            · rw [if_neg e, if_neg e]
        have hh := ih (j + 1) (by omega) hpr2
        rw [hsum (fun k o => prc A c k o), hsum (fun k o => gn A c d k o), ← nI_add, ← nI_add] at hh
        have ms0 : ¬ 0 < prc A c k (dig b j) → msk (fun k => vbk A c d k && decide (vc A c d k < j + 1) && decide (0 < prc A c k (wb A c d b k))) (np A) = msk (fun k => vbk A c d k && decide (vc A c d k < j) && decide (0 < prc A c k (wb A c d b k))) (np A) := by
          intro h0
          refine msk_cong (fun k' hk' => ?_)
          rw [hbit k' hk']
          by_cases e : k' = k
          · rw [if_pos e, e, hwb, decide_eq_false h0, Bool.and_false, Bool.and_false]
          · rw [if_neg e]
        have ms1 : 0 < prc A c k (dig b j) → msk (fun k => vbk A c d k && decide (vc A c d k < j) && decide (0 < prc A c k (wb A c d b k))) (np A) ||| 2 ^ k = msk (fun k => vbk A c d k && decide (vc A c d k < j + 1) && decide (0 < prc A c k (wb A c d b k))) (np A) := by
          intro h0
          refine msk_or hk (fun k' hk' => ?_)
          rw [hbit k' hk']
          by_cases e : k' = k
          · rw [if_pos e, if_pos e, e, hwb, decide_eq_true h0, Bool.and_true]
          · rw [if_neg e, if_neg e]
        rw [e7, e11, e13, nI_le0 (by omega)]
        refine ⟨fun z0 v16 e16 v17 e17 => ?_, fun z0 => ⟨vp_in_nI (by omega) (by decide), fun v19 e19 v20 e20 => ?_⟩⟩
        · rw [ms0 (by omega)] at hh
          rw [e16, e17, nI_1, Int32.or_zero]
          exact hh
        · rw [ix_nat (by omega), s38, or_pow (by omega), ms1 (by omega)] at e19
          rw [e19, e20, nI_1]
          exact hh
      · have z : ¬ prc A c k (dig b j) ≤ 20 := fun e => z (nI_le (b := 20) e (by decide))
        refine same (cd8_f (fun f => z ?_))
        have := f.1 k hk hv
        rw [hwb] at this
        exact this
  unfold w_X5_weigh
  have h := go (vc A c d (np A)) 0 (by omega) (fun k _ _ hlt => absurd hlt (by omega))
  have z0 : ∀ F : Nat → Nat, fb_sm (fun k => if vbk A c d k && decide (vc A c d k < 0) then F k else 0) (np A) = 0 := by
    intro F
    rw [fb_sm_cong (g := fun _ => 0) (fun k _ => by rw [decide_eq_false (by omega), Bool.and_false, if_neg (by decide)]), fb_sm_const]
    omega
  have zm : msk (fun k => vbk A c d k && decide (vc A c d k < 0) && decide (0 < prc A c k (wb A c d b k))) (np A) = 0 := by
    refine Nat.eq_of_testBit_eq (fun x => ?_)
    rw [msk_bit, decide_eq_false (show ¬ vc A c d x < 0 by omega), Bool.and_false, Bool.false_and, Bool.and_false, Nat.zero_testBit]
  rw [z0 (fun k => prc A c k (wb A c d b k)), z0 (fun k => gn A c d k (wb A c d b k)), zm] at h
  exact ⟨_, h⟩
end WG
