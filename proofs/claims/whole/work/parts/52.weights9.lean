/-! the reference's sums of weights, and OPENS -/
/-- who is counted: way 0 all, 1 votes for, -1 votes against -/
def sel (way : Int32) (v : Int) : Prop := way = 0 ∨ (way = 1 ∧ v = 1) ∨ (way = -1 ∧ v = -1)
noncomputable def sW (w : Nat → Nat) (v : Nat → Int) (aw : Nat → Bool) (way : Int32) (n : Nat) : Nat := fb_sm (fun k => if aw k then @ite Nat (sel way (v k)) (Classical.propDecidable _) (w k) 0 else 0) n
theorem sW_b {w : Nat → Nat} {v : Nat → Int} {aw : Nat → Bool} {way : Int32} {n : Nat} (hn : n ≤ 6) (hw : ∀ k, k < n → w k ≤ 108) : sW w v aw way n ≤ 1000 := by
  have h := fb_sm_bound (f := fun k => if aw k then @ite Nat (sel way (v k)) (Classical.propDecidable _) (w k) 0 else 0) (c := 108) (n := n) (fun k hk => by
    have h1 := hw k hk
    split
    · split <;> omega
    · omega)
  unfold sW
  omega
theorem sW_0 (w : Nat → Nat) (v : Nat → Int) (aw : Nat → Bool) (n : Nat) : sW w v aw 0 n = sAll w aw n := by
  unfold sW sAll
  refine fb_sm_cong (fun k _ => ?_)
  by_cases e : aw k = true
  · rw [if_pos e, if_pos e]
    exact @if_pos _ (Classical.propDecidable _) (Or.inl rfl) Nat _ _
  · rw [if_neg e, if_neg e]
theorem sW_m (w : Nat → Nat) (v : Nat → Int) (aw : Nat → Bool) (hv : ∀ k, v k = 1 ∨ v k = -1 ∨ v k = 0) : ∀ n, sMar w v aw n = (sW w v aw 1 n : Int) - (sW w v aw (-1) n : Int)
  | 0 => rfl
  | n + 1 => by
    have ih := sW_m w v aw hv n
    have s0 : sMar w v aw (n + 1) = sMar w v aw n + (if aw n then v n * (w n : Int) else 0) := fb_si_succ _ _
    have s1 : sW w v aw 1 (n + 1) = sW w v aw 1 n + (if aw n then @ite Nat (sel 1 (v n)) (Classical.propDecidable _) (w n) 0 else 0) := fb_sm_succ _ _
    have s2 : sW w v aw (-1) (n + 1) = sW w v aw (-1) n + (if aw n then @ite Nat (sel (-1) (v n)) (Classical.propDecidable _) (w n) 0 else 0) := fb_sm_succ _ _
    rw [s0, s1, s2, ih]
    by_cases e : aw n = true
    · rw [if_pos e, if_pos e, if_pos e]
      rcases hv n with z | z | z
      · rw [z, @if_pos (sel 1 1) (Classical.propDecidable _) (Or.inr (Or.inl ⟨rfl, rfl⟩)) Nat, @if_neg (sel (-1) 1) (Classical.propDecidable _) (by
          rintro (h | h | h)
          · exact absurd h (by decide)
          · exact absurd h.1 (by decide)
          · exact absurd h.2 (by decide)) Nat]
        omega
      · rw [z, @if_neg (sel 1 (-1)) (Classical.propDecidable _) (by
          rintro (h | h | h)
          · exact absurd h (by decide)
          · exact absurd h.2 (by decide)
          · exact absurd h.1 (by decide)) Nat, @if_pos (sel (-1) (-1)) (Classical.propDecidable _) (Or.inr (Or.inr ⟨rfl, rfl⟩)) Nat]
        omega
      · rw [z, @if_neg (sel 1 0) (Classical.propDecidable _) (by
          rintro (h | h | h)
          · exact absurd h (by decide)
          · exact absurd h.2 (by decide)
          · exact absurd h.1 (by decide)) Nat, @if_neg (sel (-1) 0) (Classical.propDecidable _) (by
          rintro (h | h | h)
          · exact absurd h (by decide)
          · exact absurd h.1 (by decide)
          · exact absurd h.2 (by decide)) Nat]
        omega
    · rw [if_neg e, if_neg e, if_neg e]
      omega
def aslp (x : Int32) (k : Nat) : Bool := decide (bitv x k = 0)
section W9
variable {M : Mem} {B : Nat} {A : Tn} {p d c : Nat} {Q : Int32 → Mem → Prop}
theorem fv_vt (A : Tn) (p c : Nat) : (0 < fv A p c ↔ vt A p c = 1) ∧ (fv A p c < 0 ↔ vt A p c = -1) := by
  unfold vt
  by_cases h1 : 0 < fv A p c
  · rw [if_pos h1]
    refine ⟨⟨fun _ => rfl, fun _ => h1⟩, ⟨fun h => ?_, fun h => absurd h (by decide)⟩⟩
    rw [fa_lt] at h h1
    omega
  · rw [if_neg h1]
    by_cases h2 : fv A p c < 0
    · rw [if_pos h2]
      exact ⟨⟨fun h => absurd h h1, fun h => absurd h (by decide)⟩, ⟨fun _ => rfl, fun _ => h2⟩⟩
    · rw [if_neg h2]
      exact ⟨⟨fun h => absurd h h1, fun h => absurd h (by decide)⟩, ⟨fun h => absurd h h2, fun h => absurd h (by decide)⟩⟩
theorem weights_loop {way : Int32} (hw : way = 0 ∨ way = 1 ∨ way = -1) (hA : RM M B A) (hB : B ≤ 3402) (hV : V A) (hc : c < np A) (hd : d < nd A) (hQ : Q (nI (sW (bw A c d) (bv A c) (aslp (M 85 15)) way (np A))) M) : ∀ m i : Nat, i + m = np A → wL_X9_weights_6 Q (m + 1) M (nI B) (nI c) (nI d) way (nI (sW (bw A c d) (bv A c) (aslp (M 85 15)) way i)) (nI i) := by
  have hn := (V_np hV).2
  have e3 : M 86 (B + 3) = nI (np A) := (hA.1 3 (by decide)).trans (V_np hV).1
  intro m
  induction m with
  | zero =>
    intro i hi
    intro v1 e1
    rw [show nI B + 3 = nI (B + 3) from nI_add B 3] at e1
    rw [e1, ix_nat (by omega), e3]
    have hi : i = np A := by omega
    subst hi
    exact ⟨vp_in_nI (by omega) (by decide), fun _ => hQ, fun e => absurd (nI_le (Nat.le_refl _) (by omega)) e⟩
  | succ m ih =>
    intro i hi
    intro v1 e1
    rw [show nI B + 3 = nI (B + 3) from nI_add B 3] at e1
    rw [e1, ix_nat (by omega), e3]
    refine ⟨vp_in_nI (by omega) (by decide), fun e => absurd e (nI_ge (by omega) (by omega)), fun _ => ?_⟩
    have s1 : sW (bw A c d) (bv A c) (aslp (M 85 15)) way (i + 1) = sW (bw A c d) (bv A c) (aslp (M 85 15)) way i + (if aslp (M 85 15) i then @ite Nat (sel way (bv A c i)) (Classical.propDecidable _) (bw A c d i) 0 else 0) := fb_sm_succ _ _
    have skip : (if aslp (M 85 15) i then @ite Nat (sel way (bv A c i)) (Classical.propDecidable _) (bw A c d i) 0 else 0) = 0 → wL_X9_weights_6 Q (m + 1) M (nI B) (nI c) (nI d) way (nI (sW (bw A c d) (bv A c) (aslp (M 85 15)) way i)) (nI (i + 1)) := by
      intro e
      have h := ih (i + 1) (by omega)
      rw [s1, e, Nat.add_zero] at h
      exact h
    have take : (if aslp (M 85 15) i then @ite Nat (sel way (bv A c i)) (Classical.propDecidable _) (bw A c d i) 0 else 0) = wt A i d → wL_X9_weights_6 Q (m + 1) M (nI B) (nI c) (nI d) way (nI (sW (bw A c d) (bv A c) (aslp (M 85 15)) way i + wt A i d)) (nI (i + 1)) := by
      intro e
      have h := ih (i + 1) (by omega)
      rw [s1, e] at h
      exact h
    refine ⟨fun z v5 e5 => ?_, fun z => W9_has ?_⟩
    · have he : i = c := nI_inj (by omega) (by omega) z
      rw [e5, nI_1]
      refine skip ?_
      have : bw A c d i = 0 := by unfold bw; rw [if_pos he]
      rw [this]
      split
      · split <;> rfl
      · rfl
    · have hne : i ≠ c := fun e => z (by rw [e])
      have ew : bw A c d i = wt A i d := by unfold bw; rw [if_neg hne]
      have ev : bv A c i = vt A i c := by unfold bv; rw [if_neg hne]
      rw [ew, ev] at skip take
      rw [bI0, Classical.not_not]
      refine ⟨fun y v9 e9 => ?_, fun y => ?_⟩
      · rw [e9, nI_1]
        refine skip ?_
        have : aslp (M 85 15) i = false := decide_eq_false y
        rw [this]
        rfl
      · have ya : aslp (M 85 15) i = true := decide_eq_true (Classical.not_not.mp y)
        rw [ya, if_pos rfl] at skip take
        refine W9_favour hA hB hV (by omega) ?_
        have f1 := fv_vt A i c
        have go72 : sel way (vt A i c) → wJ_X9_weights_72 Q (wL_X9_weights_6 Q (m + 1)) M (nI B) (nI c) (nI d) way (nI (sW (bw A c d) (bv A c) (aslp (M 85 15)) way i)) (nI i) := by
          intro hs
          unfold wJ_X9_weights_72 wJ_X9_weights_77
          refine ⟨fun e => absurd e (by decide), fun _ => W9_weight hA hB hV (by omega) hd (fun v6 e6 v7 e7 => ?_)⟩
          rw [e6, e7, nI_1, nI_add]
          exact take (@if_pos _ (Classical.propDecidable _) hs Nat _ _)
        have go76 : ¬ sel way (vt A i c) → wJ_X9_weights_76 Q (wL_X9_weights_6 Q (m + 1)) M (nI B) (nI c) (nI d) way (nI (sW (bw A c d) (bv A c) (aslp (M 85 15)) way i)) (nI i) := by
          intro hs
          unfold wJ_X9_weights_76 wJ_X9_weights_77
          refine ⟨fun _ v2 e2 v3 e3 => ?_, fun e => absurd rfl e⟩
          rw [e2, e3, nI_1, Int32.add_zero]
          exact skip (@if_neg _ (Classical.propDecidable _) hs Nat _ _)
        have go62 : (way = -1 ∧ vt A i c = -1) ∨ (¬ sel way (vt A i c) ∧ (way = 1 ∨ way = -1)) → wJ_X9_weights_62 Q (wL_X9_weights_6 Q (m + 1)) M (nI B) (nI c) (nI d) way (nI (sW (bw A c d) (bv A c) (aslp (M 85 15)) way i)) (nI i) (fv A i c) := by
          rintro (⟨h1, h2⟩ | ⟨h1, h2⟩)
          · refine ⟨fun e => absurd e (by rw [h1]; decide), fun _ => ⟨fun e => absurd (f1.2.mpr h2) (Int32.not_lt.mpr e), fun _ => go72 (Or.inr (Or.inr ⟨h1, h2⟩))⟩⟩
          · refine ⟨fun _ => go76 h1, fun e => ⟨fun _ => go76 h1, fun e2 => ?_⟩⟩
            rcases h2 with h2 | h2
            · exact absurd (by rw [h2]; decide) e
            · exact absurd (Or.inr (Or.inr ⟨h2, f1.2.mp (Int32.not_le.mp e2)⟩)) h1
        refine ⟨fun e => go72 (Or.inl e), fun e => ⟨fun e2 => ?_, fun e2 => ⟨fun e3 => ?_, fun e3 => ?_⟩⟩⟩
        · have hm : way = -1 := by
            rcases hw with h | h | h
            · exact absurd h e
            · exact absurd e2 (by rw [h]; decide)
            · exact h
          by_cases hx : vt A i c = -1
          · exact go62 (Or.inl ⟨hm, hx⟩)
          · exact go62 (Or.inr ⟨by
              rintro (q1 | q1 | q1)
              · exact e q1
              · exact absurd (q1.1.symm.trans hm) (by decide)
              · exact hx q1.2, Or.inr hm⟩)
        · have h1 : way = 1 := by
            rcases hw with h | h | h
            · exact absurd h e
            · exact h
            · exact absurd (by rw [h]; decide) e2
          exact go72 (Or.inr (Or.inl ⟨h1, f1.1.mp e3⟩))
        · have h1 : way = 1 := by
            rcases hw with h | h | h
            · exact absurd h e
            · exact h
            · exact absurd (by rw [h]; decide) e2
          refine go62 (Or.inr ⟨?_, Or.inl h1⟩)
          rintro (q1 | q1 | q1)
          · exact e q1
          · exact e3 (f1.1.mpr q1.2)
          · exact absurd (h1.symm.trans q1.1) (by decide)
theorem W9_weights {way : Int32} (hw : way = 0 ∨ way = 1 ∨ way = -1) (hA : RM M B A) (hB : B ≤ 3402) (hV : V A) (hc : c < np A) (hd : d < nd A) (hQ : Q (nI (sW (bw A c d) (bv A c) (aslp (M 85 15)) way (np A))) M) : w_X9_weights M (nI B) (nI c) (nI d) way Q := ⟨np A + 1, weights_loop hw hA hB hV hc hd hQ (np A) 0 (by omega)⟩
theorem W9_opens (hA : RM M B A) (hB : B ≤ 3402) (hV : V A) (hc : c < np A) (hd : d < nd A) (hQ : Q (bI (Op A c d (aslp (M 85 15)))) M) : w_X9_opens M (nI B) (nI c) (nI d) Q := by
  have hn := (V_np hV).2
  have hb := fun k (hk : k < np A) => bw_le hV (c := c) hk hd
  unfold w_X9_opens
  refine W9_weights (Or.inl rfl) hA hB hV hc hd ?_
  have b0 := sW_b (v := bv A c) (aw := aslp (M 85 15)) (way := 0) hn hb
  have b1 := sW_b (v := bv A c) (aw := aslp (M 85 15)) (way := 1) hn hb
  have b2 := sW_b (v := bv A c) (aw := aslp (M 85 15)) (way := -1) hn hb
  have hm := sW_m (bw A c d) (bv A c) (aslp (M 85 15)) (bv_3 A c) (np A)
  rw [nI_z (by omega), sW_0]
  unfold Op OPN at hQ
  refine ⟨fun z => ?_, fun z => ?_⟩
  · rw [bI_t (Or.inr z)] at hQ; exact hQ
  · refine W9_weights (Or.inr (Or.inl rfl)) hA hB hV hc hd (W9_weights (Or.inr (Or.inr rfl)) hA hB hV hc hd ?_)
    rw [nI_leI (by omega) (by omega)]
    refine ⟨fun y => ?_, fun y => ?_⟩
    · rw [bI_f (fun e => e.elim (fun e => by omega) z)] at hQ; exact hQ
    · rw [bI_t (Or.inl (by omega))] at hQ; exact hQ
theorem aslp0 (k : Nat) : aslp 0 k = true := by
  unfold aslp bitv
  have : (0 : Int32) >>> (nI k &&& 31) &&& 1 = 0 := by
    rcases and1 ((0 : Int32) >>> (nI k &&& 31)) with h | h
    · exact h
    · exfalso
      have h2 : ((0 : Int32) >>> (nI k &&& 31)) = 0 := Int32.zero_shiftRight
      rw [h2] at h
      exact absurd h (by decide)
  rw [this]
  rfl
/-- while nobody sleeps -/
theorem W9_open0 (hA : RM M B A) (hB : B ≤ 3402) (hV : V A) (h0 : M 85 15 = 0) (hc : c < np A) (hd : d < nd A) (hQ : Q (bI (Op A c d allA)) M) : w_X9_opens M (nI B) (nI c) (nI d) Q := by
  refine W9_opens hA hB hV hc hd ?_
  rw [h0]
  have e : Op A c d (aslp 0) ↔ Op A c d allA := OPN_cong (fun k hk => ⟨rfl, rfl, aslp0 k⟩)
  rw [bI_congr e]
  exact hQ
end W9
