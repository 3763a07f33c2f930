/-! FAVOUR, votes, ballots -/
def bitv (x : Int32) (c : Nat) : Int32 := (x >>> (nI c &&& 31)) &&& 1
theorem and1 (y : Int32) : y &&& 1 = 0 ∨ y &&& 1 = 1 := by
  obtain ⟨j, hj, e⟩ := pk_andE y (m := 1) 1 (by decide)
  rw [e]
  rcases (show j = 0 ∨ j = 1 by omega) with rfl | rfl
  · exact Or.inl rfl
  · exact Or.inr rfl
theorem bitv1 (x : Int32) (c : Nat) : bitv x c = 1 ↔ ¬ bitv x c = 0 := by
  rcases and1 (x >>> (nI c &&& 31)) with h | h
  · unfold bitv; rw [h]; exact ⟨fun e => absurd e (by decide), fun e => absurd rfl e⟩
  · unfold bitv; rw [h]; exact ⟨fun _ => by decide, fun _ => rfl⟩
def lean (A : Tn) (p c : Nat) : Int32 := A 5 p - 3 + A 6 p + (if bitv (A 7 p) c = 0 then 0 else 5) + (if bitv (A 8 p) c = 0 then 0 else -9)
def fv (A : Tn) (p c : Nat) : Int32 := if na A 3 p = 5 ∧ lean A p c < 0 then 0 else lean A p c
def vt (A : Tn) (p c : Nat) : Int := if 0 < fv A p c then 1 else if fv A p c < 0 then -1 else 0
theorem vt_3 (A : Tn) (p c : Nat) : vt A p c = 1 ∨ vt A p c = -1 ∨ vt A p c = 0 := by
  unfold vt; split
  · exact Or.inl rfl
  · split
    · exact Or.inr (Or.inl rfl)
    · exact Or.inr (Or.inr rfl)
/-- weight and vote in the ballot on comer c at d -/
noncomputable def bw (A : Tn) (c d k : Nat) : Nat := if k = c then 0 else wt A k d
def bv (A : Tn) (c k : Nat) : Int := if k = c then 0 else vt A k c
theorem bv_3 (A : Tn) (c k : Nat) : bv A c k = 1 ∨ bv A c k = -1 ∨ bv A c k = 0 := by
  unfold bv; split
  · exact Or.inr (Or.inr rfl)
  · exact vt_3 A k c
theorem bw_le {A : Tn} (h : V A) {c d k : Nat} (hk : k < np A) (hd : d < nd A) : bw A c d k ≤ 108 := by
  unfold bw; split
  · omega
  · exact wt_le h hk hd
/-- the sum of all weights, and of weights times votes, of those awake -/
def sAll (w : Nat → Nat) (aw : Nat → Bool) (n : Nat) : Nat := fb_sm (fun k => if aw k then w k else 0) n
def sMar (w : Nat → Nat) (v : Nat → Int) (aw : Nat → Bool) (n : Nat) : Int := fb_si (fun k => if aw k then v k * (w k : Int) else 0) n
def OPN (w : Nat → Nat) (v : Nat → Int) (aw : Nat → Bool) (n : Nat) : Prop := 0 < sMar w v aw n ∨ sAll w aw n = 0
theorem OPN_cong {w w2 : Nat → Nat} {v v2 : Nat → Int} {aw aw2 : Nat → Bool} {n : Nat} (h : ∀ k, k < n → w k = w2 k ∧ v k = v2 k ∧ aw k = aw2 k) : OPN w v aw n ↔ OPN w2 v2 aw2 n := by
  unfold OPN sMar sAll
  rw [fb_si_cong (g := fun k => if aw2 k then v2 k * (w2 k : Int) else 0) (fun k hk => by rw [(h k hk).1, (h k hk).2.1, (h k hk).2.2]), fb_sm_cong (g := fun k => if aw2 k then w2 k else 0) (fun k hk => by rw [(h k hk).1, (h k hk).2.2])]
section VW
variable {M : Mem} {T B : Nat} {A : Tn} {p d c : Nat} {Q : Int32 → Mem → Prop}
theorem W6_lean (hA : RC M T A) (hV : V A) (hp : p < np A) (q : Q (lean A p c) M) : w_X6_leaningOf T M (nI p) (nI c) Q := by
  have hn := (V_np hV).2
  have e5 : M (T + 5) p = A 5 p := hA.2 5 _ (rel_p (by decide) (by decide) hp)
  have e6 : M (T + 6) p = A 6 p := hA.2 6 _ (rel_p (by decide) (by decide) hp)
  have e7 : M (T + 7) p = A 7 p := hA.2 7 _ (rel_p (by decide) (by decide) hp)
  have e8 : M (T + 8) p = A 8 p := hA.2 8 _ (rel_p (by decide) (by decide) hp)
  have hin : vp_in (nI p) 6 := vp_in_nI (by omega) (by decide)
  simp only [w_X6_leaningOf, wJ_X6_leaningOf_32, ix_nat (show p < 2 ^ 31 by omega), e5, e6, e7, e8, forall_eq, ← bitv.eq_def]
  unfold lean at q
  refine ⟨hin, hin, hin, fun z => ⟨hin, fun z2 => ?_, fun z2 => ?_⟩, fun z => ⟨hin, fun z2 => ?_, fun z2 => ?_⟩⟩
  · rw [if_pos z, if_pos z2, Int32.add_zero, Int32.add_zero] at q; exact q
  · rw [if_pos z, if_neg z2, Int32.add_zero] at q; exact q
  · rw [if_neg z, if_pos z2, Int32.add_zero] at q; exact q
  · rw [if_neg z, if_neg z2] at q; exact q
theorem W6_favour (hA : RC M T A) (hV : V A) (hp : p < np A) (q : Q (fv A p c) M) : w_X6_favourOf T M (nI p) (nI c) Q := by
  have hn := (V_np hV).2
  have e3 : M (T + 3) p = A 3 p := hA.2 3 _ (rel_p (by decide) (by decide) hp)
  obtain ⟨k3, k3a, k3b, -⟩ := hV.2.2.1 p hp
  unfold w_X6_favourOf
  refine W6_lean hA hV hp ?_
  rw [ix_nat (by omega), e3, k3]
  unfold fv at q
  refine ⟨vp_in_nI (by omega) (by decide), fun z => ?_, fun z => ?_⟩
  · rw [if_neg (fun e => z (by rw [e.1]; rfl))] at q; exact q
  · have z := nI_inj (b := 5) (by omega) (by decide) z
    by_cases hl : lean A p c < 0
    · rw [if_pos ⟨z, hl⟩] at q
      rw [if_pos hl]; exact q
    · rw [if_neg (fun e => hl e.2)] at q
      rw [if_neg hl]; exact q
theorem W_cmp0 {x : Int32} (q : Q (Int32.ofInt (if 0 < x then 1 else if x < 0 then -1 else 0)) M) : w_J6_compare_7cf53 M x 0 Q := by
  unfold w_J6_compare_7cf53
  by_cases h1 : 0 < x
  · rw [if_pos h1] at q
    rw [fa_lt, show (0 : Int32).toInt = 0 from rfl] at h1
    rw [fa_le, fa_eq, show (0 : Int32).toInt = 0 from rfl]
    exact ⟨fun z => ⟨fun _ => q, fun z2 => absurd z2 (by omega)⟩, fun z => absurd z (by omega)⟩
  · rw [if_neg h1] at q
    by_cases h2 : x < 0
    · rw [if_pos h2] at q
      rw [fa_lt, show (0 : Int32).toInt = 0 from rfl] at h1 h2
      rw [fa_le, fa_eq, show (0 : Int32).toInt = 0 from rfl]
      exact ⟨fun z => absurd z (by omega), fun z => q⟩
    · rw [if_neg h2] at q
      rw [fa_lt, show (0 : Int32).toInt = 0 from rfl] at h1 h2
      rw [fa_le, fa_eq, show (0 : Int32).toInt = 0 from rfl]
      exact ⟨fun z => ⟨fun z2 => absurd z2 (by omega), fun _ => q⟩, fun z => absurd z (by omega)⟩
theorem W9_has {x : Int32} (q : Q (bI (¬ bitv x c = 0)) M) : w_X9_has M x (nI c) Q := by
  unfold w_X9_has
  rw [show (x >>> (nI c &&& 31)) &&& 1 = bitv x c from rfl, bitv1]
  refine ⟨fun z => ?_, fun z => ?_⟩
  · rw [bI_f z] at q; exact q
  · rw [bI_t z] at q; exact q
theorem lin3 (b k p : Nat) : nI b + nI k + nI p = nI (b + k + p) := by rw [nI_add, nI_add]
theorem W9_lean (hA : RM M B A) (hB : B ≤ 3402) (hV : V A) (hp : p < np A) (q : Q (lean A p c) M) : w_X9_plainFavour M (nI B) (nI p) (nI c) Q := by
  have hn := (V_np hV).2
  have e5 : M 86 (B + 30 + p) = A 5 p := RM_p hA hp (f := 5) (by decide) (by decide)
  have e6 : M 86 (B + 36 + p) = A 6 p := RM_p hA hp (f := 6) (by decide) (by decide)
  have e7 : M 86 (B + 42 + p) = A 7 p := RM_p hA hp (f := 7) (by decide) (by decide)
  have e8 : M 86 (B + 48 + p) = A 8 p := RM_p hA hp (f := 8) (by decide) (by decide)
  have i5 : vp_in (nI (B + 30 + p)) 3528 := vp_in_nI (by omega) (by decide)
  have i6 : vp_in (nI (B + 36 + p)) 3528 := vp_in_nI (by omega) (by decide)
  have i7 : vp_in (nI (B + 42 + p)) 3528 := vp_in_nI (by omega) (by decide)
  have i8 : vp_in (nI (B + 48 + p)) 3528 := vp_in_nI (by omega) (by decide)
  simp only [w_X9_plainFavour, wJ_X9_plainFavour_52, forall_eq, show nI B + 30 + nI p = nI (B + 30 + p) from lin3 B 30 p, show nI B + 36 + nI p = nI (B + 36 + p) from lin3 B 36 p, show nI B + 42 + nI p = nI (B + 42 + p) from lin3 B 42 p, show nI B + 48 + nI p = nI (B + 48 + p) from lin3 B 48 p, ix_nat (show B + 30 + p < 2 ^ 31 by omega), ix_nat (show B + 36 + p < 2 ^ 31 by omega), ix_nat (show B + 42 + p < 2 ^ 31 by omega), ix_nat (show B + 48 + p < 2 ^ 31 by omega), e5, e6, e7, e8]
  unfold lean at q
  refine ⟨i5, i6, i7, W9_has ?_⟩
  rw [bI0, Classical.not_not]
  refine ⟨fun z => ⟨i8, W9_has ?_⟩, fun z => ⟨i8, W9_has ?_⟩⟩
  · rw [e8, bI0, Classical.not_not]
    refine ⟨fun z2 => ?_, fun z2 => ?_⟩
    · rw [if_pos z, if_pos z2, Int32.add_zero] at q; rw [Int32.sub_zero]; exact q
    · rw [if_pos z, if_neg z2] at q; rw [Int32.sub_eq_add_neg]; exact q
  · rw [e8, bI0, Classical.not_not]
    refine ⟨fun z2 => ?_, fun z2 => ?_⟩
    · rw [if_neg z, if_pos z2, Int32.add_zero] at q; rw [Int32.sub_zero]; exact q
    · rw [if_neg z, if_neg z2] at q; rw [Int32.sub_eq_add_neg]; exact q
theorem W9_favour (hA : RM M B A) (hB : B ≤ 3402) (hV : V A) (hp : p < np A) (q : Q (fv A p c) M) : w_X9_favourOf M (nI B) (nI p) (nI c) Q := by
  have hn := (V_np hV).2
  have e3 : M 86 (B + 18 + p) = A 3 p := RM_p hA hp (f := 3) (by decide) (by decide)
  obtain ⟨k3, k3a, k3b, -⟩ := hV.2.2.1 p hp
  unfold w_X9_favourOf
  refine W9_lean hA hB hV hp ?_
  unfold fv at q
  refine ⟨fun z => ?_, fun z => ?_⟩
  · rw [if_neg (fun e => absurd e.2 (Int32.not_lt.mpr z))] at q; exact q
  · simp only [forall_eq, show nI B + 18 + nI p = nI (B + 18 + p) from lin3 B 18 p, ix_nat (show B + 18 + p < 2 ^ 31 by omega), e3, k3]
    refine ⟨vp_in_nI (by omega) (by decide), fun y => ?_, fun y => ?_⟩
    · rw [if_neg (fun e => y (by rw [e.1]; rfl))] at q; exact q
    · have y := nI_inj (b := 5) (by omega) (by decide) y
      rw [if_pos ⟨y, Int32.not_le.mp z⟩] at q; exact q
end VW
/-! the ballot of the class -/
def SBal (k j : Nat) : Prop := (k = 29 ∧ j = 2) ∨ k = 30 ∨ k = 31
def Bal (M : Mem) (n : Nat) (w : Nat → Nat) (v : Nat → Int) : Prop := M 29 2 = nI n ∧ ∀ k, k < n → M 30 k = nI (w k) ∧ M 31 k = Int32.ofInt (v k)
theorem kdT {T : Nat} (h : kd T = 6) : T = 41 ∨ T = 52 ∨ T = 63 ∨ T = 74 := by
  have h1 := bdT h
  revert h
  revert T
  decide
theorem RC_fr {M M2 : Mem} {T : Nat} {A : Tn} (h : RC M T A) (hf : ∀ f j, f ≤ 10 → M2 (T + f) j = M (T + f) j) : RC M2 T A := by
  refine ⟨fun j hj => by rw [show M2 T j = M T j from hf 0 j (by decide)]; exact h.1 j hj, fun f i hr => ?_⟩
  have hf2 : f ≤ 10 := by rcases hr with z | z | z <;> omega
  rw [hf f i hf2]
  exact h.2 f i hr
theorem RC_bal {M M2 : Mem} {T : Nat} {A : Tn} (h : RC M T A) (hT : kd T = 6) (hf : Fr SBal M M2) : RC M2 T A := by
  refine RC_fr h (fun f j hf2 => hf _ _ ?_)
  unfold SBal
  have := kdT hT
  omega
theorem ofI_n (n : Nat) : nI n = Int32.ofInt (n : Int) := Int32.ofInt_eq_ofNat.symm
section HW
variable {M : Mem} {T B : Nat} {A : Tn} {p d c : Nat}
theorem hold_loop {Q : Mem → Prop} (hA : RC M T A) (hT : kd T = 6) (hV : V A) (hc : c < np A) (hd : d < nd A) (hQ : ∀ M2, Fr SBal M M2 → Bal M2 (np A) (bw A c d) (bv A c) → Q M2) : ∀ m i : Nat, i + m = np A → ∀ M1 : Mem, Fr SBal M M1 → M1 29 2 = nI (np A) → (∀ k, k < i → M1 30 k = nI (bw A c d k) ∧ M1 31 k = Int32.ofInt (bv A c k)) → wL_X2_hold_11 T Q (m + 1) M1 (nI c) (nI d) (nI i) := by
  have hn := (V_np hV).2
  intro m
  induction m with
  | zero =>
    intro i hi M1 hF h2 hk
    refine ⟨fun _ => hQ M1 hF ⟨h2, fun k hk2 => hk k (by omega)⟩, fun e => absurd ?_ e⟩
    rw [h2]; exact nI_le (by omega) (by omega)
  | succ m ih =>
    intro i hi M1 hF h2 hk
    refine ⟨fun e => absurd e (by rw [h2]; exact nI_ge (by omega) (by omega)), fun _ => ?_⟩
    have hin : vp_in (nI i) 6 := vp_in_nI (by omega) (by decide)
    have goon : ∀ M2 : Mem, M2 = ms (ms M1 30 i (nI (bw A c d i))) 31 i (Int32.ofInt (bv A c i)) → wL_X2_hold_11 T Q (m + 1) M2 (nI c) (nI d) (nI (i + 1)) := by
      intro M2 e2
      subst e2
      refine ih (i + 1) (by omega) _ (Fr_ms (Fr_ms hF _ (by simp [SBal])) _ (by simp [SBal])) ?_ (fun k hk2 => ?_)
      · rw [ms_ne (by decide), ms_ne (by decide)]; exact h2
      · by_cases e : k = i
        · subst e
          exact ⟨by rw [ms_ne (by decide), ms_eq], by rw [ms_eq]⟩
        · rw [ms_ne (by decide), ms_ne2 e, ms_ne2 e, ms_ne (by decide)]
          exact hk k (by omega)
    have hR : ∀ {M3 : Mem}, Fr SBal M M3 → RC M3 T A := fun hf => RC_bal hA hT hf
    refine ⟨fun z => ?_, fun z => ?_⟩
    · have hne : i ≠ c := fun e => z (by rw [e])
      refine W6_weight (hR hF) hV (by omega) hd ?_
      unfold wJ_X2_hold_43
      rw [ix_nat (by omega)]
      refine ⟨hin, fun M2 e2 => ⟨fun _ => ?_, fun y => absurd y z⟩⟩
      have hF2 : Fr SBal M M2 := by rw [e2]; exact Fr_ms hF _ (by simp [SBal])
      refine W6_favour (hR hF2) hV (by omega) ?_
      refine W_cmp0 ?_
      refine ⟨hin, fun M9 e9 v10 e10 => ?_⟩
      rw [e10, nI_1]
      refine goon M9 ?_
      rw [e9, e2]
      unfold bw bv vt
      rw [if_neg hne, if_neg hne]
    · have he : i = c := nI_inj (by omega) (by omega) z
      unfold wJ_X2_hold_43
      rw [ix_nat (by omega)]
      refine ⟨hin, fun M2 e2 => ⟨fun y => absurd z y, fun _ => ⟨hin, fun M9 e9 v10 e10 => ?_⟩⟩⟩
      rw [e10, nI_1]
      refine goon M9 ?_
      rw [e9, e2]
      unfold bw bv
      rw [if_pos he, if_pos he]
      rfl
theorem W2_hold {Q : Mem → Prop} (hA : RC M T A) (hT : kd T = 6) (hV : V A) (hc : c < np A) (hd : d < nd A) (hQ : ∀ M2, Fr SBal M M2 → Bal M2 (np A) (bw A c d) (bv A c) → Q M2) : w_X2_hold T M (nI c) (nI d) Q := by
  intro v1 e1 M2 e2
  refine ⟨np A + 1, ?_⟩
  have h3 : M T 3 = nI (np A) := (hA.1 3 (by decide)).trans (V_np hV).1
  refine hold_loop hA hT hV hc hd hQ (np A) 0 (by omega) M2 ?_ ?_ (fun k hk => absurd hk (by omega))
  · rw [e2]; exact Fr_ms (Fr_rf _ _) _ (by simp [SBal])
  · rw [e2, ms_eq, e1, h3]
theorem ofI_pos {z : Int} (h1 : -1000000 ≤ z) (h2 : z ≤ 1000000) : (0 < Int32.ofInt z) ↔ 0 < z := by
  rw [fa_lt, Int32.toInt_ofInt_of_le (by omega) (by omega)]
  exact Iff.rfl
theorem sMar_b {w : Nat → Nat} {v : Nat → Int} {aw : Nat → Bool} {n : Nat} (hn : n ≤ 6) (hw : ∀ k, k < n → w k ≤ 108) (hv : ∀ k, v k = 1 ∨ v k = -1 ∨ v k = 0) : -1000 ≤ sMar w v aw n ∧ sMar w v aw n ≤ 1000 := by
  have h := fb_si_bound (f := fun k => if aw k then v k * (w k : Int) else 0) (c := 108) (n := n) (by decide) (fun k hk => by
    have h1 := hw k hk
    try dsimp only
    by_cases e : aw k = true
    · rw [if_pos e]
      rcases hv k with z | z | z <;> rw [z] <;> omega
    · rw [if_neg e]; omega)
  unfold sMar
  omega
theorem sAll_b {w : Nat → Nat} {aw : Nat → Bool} {n : Nat} (hn : n ≤ 6) (hw : ∀ k, k < n → w k ≤ 108) : sAll w aw n ≤ 1000 := by
  have h := fb_sm_bound (f := fun k => if aw k then w k else 0) (c := 108) (n := n) (fun k hk => by
    have h1 := hw k hk
    try dsimp only
    split <;> omega)
  unfold sAll
  omega
def awk (x : Int32) (k : Nat) : Bool := decide (¬ bitv x k = 0)
theorem awk_loop {Q : Int32 → Mem → Prop} {x : Int32} {n : Nat} {w : Nat → Nat} {v : Nat → Int} (hn : n ≤ 6) (hB : Bal M n w v) (hw : ∀ k, k < n → w k ≤ 108) (hv : ∀ k, v k = 1 ∨ v k = -1 ∨ v k = 0) (hQ : Q (bI (OPN w v (awk x) n)) M) : ∀ m i : Nat, i + m = n → wL_X2_opensAwake_7 Q (m + 1) M x (Int32.ofInt (sMar w v (awk x) i)) (nI (sAll w (awk x) i)) (nI i) := by
  intro m
  induction m with
  | zero =>
    intro i hi
    have hi : i = n := by omega
    subst hi
    refine ⟨fun _ => ?_, fun e => absurd ?_ e⟩
    · have b1 := sMar_b (aw := awk x) hn hw hv
      have b2 := sAll_b (aw := awk x) hn hw
      rw [ofI_pos (by omega) (by omega), nI_z (by omega)]
      unfold OPN at hQ
      refine ⟨fun z => ?_, fun z => ⟨fun z2 => ?_, fun z2 => ?_⟩⟩
      · rw [bI_t (Or.inl z)] at hQ; exact hQ
      · rw [bI_f (fun e => e.elim z z2)] at hQ; exact hQ
      · rw [bI_t (Or.inr z2)] at hQ; exact hQ
    · rw [hB.1]; exact nI_le (by omega) (by omega)
  | succ m ih =>
    intro i hi
    refine ⟨fun e => absurd e (by rw [hB.1]; exact nI_ge (by omega) (by omega)), fun _ => ?_⟩
    have hin : vp_in (nI i) 6 := vp_in_nI (by omega) (by decide)
    obtain ⟨e30, e31⟩ := hB.2 i (by omega)
    have s1 : sMar w v (awk x) (i + 1) = sMar w v (awk x) i + (if awk x i then v i * (w i : Int) else 0) := fb_si_succ _ _
    have s2 : sAll w (awk x) (i + 1) = sAll w (awk x) i + (if awk x i then w i else 0) := fb_sm_succ _ _
    refine ⟨fun z v5 e5 => ?_, fun z => ⟨hin, hin, fun v8 e8 => ⟨hin, fun v10 e10 v11 e11 => ?_⟩⟩⟩
    · have za : awk x i = false := by unfold awk; exact decide_eq_false (fun e => e z)
      rw [e5, nI_1]
      have h := ih (i + 1) (by omega)
      rw [s1, s2, za] at h
      simp only [Bool.false_eq_true, if_false, Int.add_zero, Nat.add_zero] at h
      exact h
    · have za : awk x i = true := by unfold awk; exact decide_eq_true z
      rw [ix_nat (by omega), e30, e31] at e8
      rw [ix_nat (by omega), e30] at e10
      rw [e8, e10, e11, nI_1]
      have h := ih (i + 1) (by omega)
      rw [s1, s2, za] at h
      simp only [if_true] at h
      rw [Int32.ofInt_add, Int32.ofInt_mul, ← ofI_n, ← nI_add] at h
      exact h
theorem W2_awake {Q : Int32 → Mem → Prop} {x : Int32} {n : Nat} {w : Nat → Nat} {v : Nat → Int} (hn : n ≤ 6) (hB : Bal M n w v) (hw : ∀ k, k < n → w k ≤ 108) (hv : ∀ k, v k = 1 ∨ v k = -1 ∨ v k = 0) (hQ : Q (bI (OPN w v (awk x) n)) M) : w_X2_opensAwake M x Q := ⟨n + 1, awk_loop hn hB hw hv hQ n 0 (by omega)⟩
def allA (_ : Nat) : Bool := true
theorem awk_all : ∀ n, n < 7 → ∀ k, k < n → awk ((1 <<< (nI n &&& 31)) - 1) k = true := by decide
theorem W2_opens {Q : Int32 → Mem → Prop} {n : Nat} {w : Nat → Nat} {v : Nat → Int} (hn : n ≤ 6) (hB : Bal M n w v) (hw : ∀ k, k < n → w k ≤ 108) (hv : ∀ k, v k = 1 ∨ v k = -1 ∨ v k = 0) (hQ : Q (bI (OPN w v allA n)) M) : w_X2_opens M Q := by
  unfold w_X2_opens
  rw [hB.1]
  refine W2_awake hn hB hw hv ⟨bIz _, ?_⟩
  rw [bI_congr (OPN_cong (aw2 := allA) (fun k hk => ⟨rfl, rfl, awk_all n (by omega) k hk⟩))]
  exact hQ
/-- d OPENS to c in the TOWN A -/
def Op (A : Tn) (c d : Nat) (aw : Nat → Bool) : Prop := OPN (bw A c d) (bv A c) aw (np A)
theorem W8_opens {Q : Int32 → Mem → Prop} (hA : RC M T A) (hT : kd T = 6) (hV : V A) (hc : c < np A) (hd : d < nd A) (hQ : ∀ M2, Fr SBal M M2 → Q (bI (Op A c d allA)) M2) : w_X8_opens T M (nI c) (nI d) Q := by
  refine W2_hold hA hT hV hc hd (fun M2 hF hB => ?_)
  refine W2_opens (V_np hV).2 hB (fun k hk => bw_le hV hk hd) (bv_3 A c) ⟨bIz _, hQ M2 hF⟩
end HW
