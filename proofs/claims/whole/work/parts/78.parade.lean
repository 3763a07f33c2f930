/-! those of s have gone through d ahead -/
def mkT (A : Tn) (d : Nat) (s : Nat → Bool) : Tn := fun f i => if f = 9 ∧ i % 6 = d ∧ i < 36 ∧ s (i / 6) = true then nI (tnx A i) else if f = 10 ∧ i % 6 = d ∧ i < 36 ∧ s (i / 6) = true then A 0 5 else A f i
theorem mk_o {A : Tn} {d : Nat} {s : Nat → Bool} {f : Nat} (i : Nat) (h : f < 9) : mkT A d s f i = A f i := by
  unfold mkT
  rw [if_neg (by omega), if_neg (by omega)]
theorem mk_n {A : Tn} {d : Nat} {s : Nat → Bool} : nr (mkT A d s) = nr A ∧ nd (mkT A d s) = nd A ∧ np (mkT A d s) = np A := by
  unfold nr nd np na
  rw [mk_o _ (by decide), mk_o _ (by decide), mk_o _ (by decide)]
  exact ⟨rfl, rfl, rfl⟩
theorem mk_na {A : Tn} {d : Nat} {s : Nat → Bool} {f : Nat} (i : Nat) (h : f < 9) : na (mkT A d s) f i = na A f i := by
  unfold na
  rw [mk_o _ h]
theorem mk_0 (A : Tn) (d : Nat) : mkT A d (fun _ => false) = A := by
  funext f i
  unfold mkT
  rw [if_neg (fun h => absurd (show false = true from h.2.2.2) (by decide)), if_neg (fun h => absurd (show false = true from h.2.2.2) (by decide))]
theorem tnx_le (A : Tn) (c : Nat) : tnx A c ≤ 99 := by unfold tnx; split <;> omega
theorem mk_c {A : Tn} {d k : Nat} {s : Nat → Bool} (hd : d < 6) (hk : k < 6) : mkT A d s 9 (6 * k + d) = (if s k then nI (tnx A (6 * k + d)) else A 9 (6 * k + d)) ∧ mkT A d s 10 (6 * k + d) = (if s k then A 0 5 else A 10 (6 * k + d)) := by
  have h1 : (6 * k + d) % 6 = d := by omega
  have h2 : (6 * k + d) / 6 = k := by omega
  unfold mkT
  rw [h1, h2]
  by_cases hs : s k = true
  · constructor
    · rw [if_pos ⟨rfl, rfl, by omega, hs⟩, if_pos hs]
    · rw [if_neg (fun h => absurd h.1 (by decide)), if_pos ⟨rfl, rfl, by omega, hs⟩, if_pos hs]
  · constructor
    · rw [if_neg (fun h => hs h.2.2.2), if_neg (fun h => hs h.2.2.2), if_neg hs]
    · rw [if_neg (fun h => hs h.2.2.2), if_neg (fun h => hs h.2.2.2), if_neg hs]
theorem mk_s {A : Tn} {d i : Nat} {s s2 : Nat → Bool} (hd : d < 6) (hi : i < 6) (h : ∀ k, s2 k = if k = i then true else s k) : ms (ms (mkT A d s) 9 (6 * i + d) (nI (tnx A (6 * i + d)))) 10 (6 * i + d) (A 0 5) = mkT A d s2 := by
  funext f j
  rw [ms_app, ms_app]
  unfold mkT
  rw [h (j / 6)]
  by_cases e10 : f = 10 ∧ j = 6 * i + d
  · rw [if_pos e10, if_neg (by omega), if_pos ⟨e10.1, by omega, by omega, by rw [if_pos (by omega)]⟩]
  · rw [if_neg e10]
    by_cases e9 : f = 9 ∧ j = 6 * i + d
    · rw [if_pos e9, if_pos ⟨e9.1, by omega, by omega, by rw [if_pos (by omega)]⟩, e9.2]
    · rw [if_neg e9]
      have k9 : (f = 9 ∧ j % 6 = d ∧ j < 36 ∧ (if j / 6 = i then true else s (j / 6)) = true) ↔ (f = 9 ∧ j % 6 = d ∧ j < 36 ∧ s (j / 6) = true) := by
        by_cases hj : j / 6 = i
        · constructor
          · rintro ⟨h1, h2, h3, -⟩; exact absurd ⟨h1, by omega⟩ e9
          · rintro ⟨h1, h2, h3, -⟩; exact absurd ⟨h1, by omega⟩ e9
        · rw [if_neg hj]
      have k10 : (f = 10 ∧ j % 6 = d ∧ j < 36 ∧ (if j / 6 = i then true else s (j / 6)) = true) ↔ (f = 10 ∧ j % 6 = d ∧ j < 36 ∧ s (j / 6) = true) := by
        by_cases hj : j / 6 = i
        · constructor
          · rintro ⟨h1, h2, h3, -⟩; exact absurd ⟨h1, by omega⟩ e10
          · rintro ⟨h1, h2, h3, -⟩; exact absurd ⟨h1, by omega⟩ e10
        · rw [if_neg hj]
      by_cases z9 : f = 9 ∧ j % 6 = d ∧ j < 36 ∧ s (j / 6) = true
      · rw [if_pos z9, if_pos (k9.mpr z9)]
      · rw [if_neg z9, if_neg (fun e => z9 (k9.mp e))]
        by_cases z10 : f = 10 ∧ j % 6 = d ∧ j < 36 ∧ s (j / 6) = true
        · rw [if_pos z10, if_pos (k10.mpr z10)]
        · rw [if_neg z10, if_neg (fun e => z10 (k10.mp e))]
theorem V_mk {A : Tn} {d : Nat} {s : Nat → Bool} (h : V A) (hd6 : d < 6) : V (mkT A d s) := by
  have hn6 := (V_np h).2
  have hnd6 := (V_nd h).2
  obtain ⟨h0, hd, hp, ht⟩ := h
  obtain ⟨n0, n1, n2⟩ := mk_n (A := A) (d := d) (s := s)
  unfold V
  rw [n0, n1, n2, mk_na 1 (by decide), mk_na 4 (by decide), mk_na 5 (by decide), mk_o 0 (by decide), mk_o 1 (by decide), mk_o 2 (by decide), mk_o 3 (by decide), mk_o 4 (by decide), mk_o 5 (by decide)]
  refine ⟨h0, fun e he => ?_, fun q hq => ?_, fun q e hq he => ?_⟩
  · rw [mk_na e (by decide), mk_na e (by decide), mk_o e (by decide), mk_o e (by decide)]
    exact hd e he
  · rw [mk_na q (by decide), mk_na q (by decide), mk_na q (by decide), mk_na q (by decide), mk_na q (by decide), mk_o q (by decide), mk_o q (by decide), mk_o q (by decide), mk_o q (by decide), mk_o q (by decide), mk_o q (by decide)]
    exact hp q hq
  · have h1 := ht q e hq he
    by_cases z : e = d
    · subst z
      have h9 := (mk_c (A := A) (s := s) (k := q) hd6 (by omega)).1
      unfold na
      rw [h9]
      split
      · rw [ix_nat (by have := tnx_le A (6 * q + e); omega)]
        exact ⟨rfl, tnx_le _ _⟩
      · exact h1
    · have e9 : mkT A d s 9 (6 * q + e) = A 9 (6 * q + e) := by
        unfold mkT
        rw [if_neg (by omega), if_neg (by omega)]
      unfold na
      rw [e9]
      exact h1
theorem wt_cong {A B : Tn} {k d : Nat} (h1 : A 0 1 = B 0 1) (h5 : A 0 5 = B 0 5) (h3 : A 3 k = B 3 k) (h9 : A 9 (6 * k + d) = B 9 (6 * k + d)) (h10 : A 10 (6 * k + d) = B 10 (6 * k + d)) : wt A k d = wt B k d := by
  have hn3 : na A 3 k = na B 3 k := by unfold na; rw [h3]
  have hn9 : na A 9 (6 * k + d) = na B 9 (6 * k + d) := by unfold na; rw [h9]
  have hfr : fr A (6 * k + d) = fr B (6 * k + d) := by
    have hf : frs A (6 * k + d) ↔ frs B (6 * k + d) := by unfold frs; rw [h1, h5, h10]
    by_cases z : frs A (6 * k + d)
    · rw [fr_t z, fr_t (hf.mp z), hn9]
    · rw [fr_f z, fr_f (fun e => z (hf.mpr e)), hn9]
  unfold wt
  rw [hn3, hn9, hfr]
theorem mk_wt {A : Tn} {d k : Nat} {s : Nat → Bool} (hd : d < 6) (hk : k < 6) : wt (mkT A d s) k d = if s k then wt (mkT A d (fun _ => true)) k d else wt A k d := by
  obtain ⟨h9, h10⟩ := mk_c (A := A) (s := s) hd hk
  obtain ⟨g9, g10⟩ := mk_c (A := A) (s := fun _ => true) hd hk
  by_cases hs : s k = true
  · rw [if_pos hs]
    rw [if_pos hs] at h9 h10
    rw [if_pos rfl] at g9 g10
    refine wt_cong ?_ ?_ ?_ (h9.trans g9.symm) (h10.trans g10.symm)
    · rw [mk_o _ (by decide), mk_o _ (by decide)]
    · rw [mk_o _ (by decide), mk_o _ (by decide)]
    · rw [mk_o _ (by decide), mk_o _ (by decide)]
  · rw [if_neg hs]
    rw [if_neg hs] at h9 h10
    exact wt_cong (mk_o _ (by decide)) (mk_o _ (by decide)) (mk_o _ (by decide)) h9 h10
theorem mk_bv {A : Tn} {d c k : Nat} {s : Nat → Bool} : bv (mkT A d s) c k = bv A c k := by
  unfold bv vt fv lean
  rw [mk_na k (by decide), mk_o k (by decide), mk_o k (by decide), mk_o k (by decide), mk_o k (by decide)]
/-- who votes with which weight behind a parade -/
noncomputable def pw (A : Tn) (c d : Nat) (s : Nat → Bool) (k : Nat) : Nat := if s k then wt (mkT A d (fun _ => true)) k d else bw A c d k
theorem Op_mk {A : Tn} {c d : Nat} {s : Nat → Bool} (hV : V A) (hd : d < 6) (hc : s c = false) : Op (mkT A d s) c d allA ↔ OPN (pw A c d s) (bv A c) allA (np A) := by
  have hn := (V_np hV).2
  unfold Op
  rw [(mk_n (A := A) (d := d) (s := s)).2.2]
  refine OPN_cong (fun k hk => ⟨?_, mk_bv, rfl⟩)
  unfold pw bw
  by_cases e : k = c
  · rw [if_pos e, e, hc, if_neg (by decide), if_pos rfl]
  · rw [if_neg e, if_neg e, mk_wt hd (by omega)]
theorem pw_le {A : Tn} {c d k : Nat} {s : Nat → Bool} (hV : V A) (hd : d < nd A) (hk : k < np A) : pw A c d s k ≤ 108 := by
  have hd6 := (V_nd hV).2
  unfold pw
  split
  · exact wt_le (V_mk hV (by omega)) (by rw [mk_n.2.2]; exact hk) (by rw [mk_n.2.1]; exact hd)
  · exact bw_le hV hk hd
/-- bits of x as a set -/
def bs (x k : Nat) : Bool := Nat.testBit x k
theorem W2_behind {M : Mem} {A : Tn} {c d x : Nat} {Q : Int32 → Mem → Prop} (hx : x < 64) (hV : V A) (hd : d < nd A) (hB : Bal M (np A) (bw A c d) (bv A c)) (hR : RC M 52 (mkT A d (fun _ => true))) (q : Q (bI (OPN (pw A c d (bs x)) (bv A c) allA (np A))) M) : w_X2_opensBehind 52 M (nI x) (nI d) Q := by
  have hn := (V_np hV).2
  have hd6 := (V_nd hV).2
  have hw := fun k (hk : k < np A) => pw_le (c := c) (s := bs x) hV hd hk
  have go : ∀ m i : Nat, i + m = np A → wL_X2_opensBehind_9 52 Q (m + 1) M (nI x) (nI d) (Int32.ofInt (sMar (pw A c d (bs x)) (bv A c) allA i)) (nI (sAll (pw A c d (bs x)) allA i)) (nI i) := by
    intro m
    induction m with
    | zero =>
      intro i hi
      have hi : i = np A := by omega
      subst hi
      refine ⟨fun _ => ?_, fun e => absurd ?_ e⟩
      · have b1 := sMar_b (aw := allA) hn hw (bv_3 A c)
        have b2 := sAll_b (aw := allA) hn hw
        rw [ofI_pos (by omega) (by omega), nI_z (by omega)]
        unfold OPN at q
        refine ⟨fun z => ?_, fun z => ⟨fun z2 => ?_, fun z2 => ?_⟩⟩
        · rw [bI_t (Or.inl z)] at q; exact q
        · rw [bI_f (fun e => e.elim z z2)] at q; exact q
        · rw [bI_t (Or.inr z2)] at q; exact q
      · rw [hB.1]; exact nI_le (by omega) (by omega)
    | succ m ih =>
      intro i hi
      refine ⟨fun e => absurd e (by rw [hB.1]; exact nI_ge (by omega) (by omega)), fun _ => ?_⟩
      have hin : vp_in (nI i) 6 := vp_in_nI (by omega) (by decide)
      obtain ⟨e30, e31⟩ := hB.2 i (by omega)
      have s1 : sMar (pw A c d (bs x)) (bv A c) allA (i + 1) = sMar (pw A c d (bs x)) (bv A c) allA i + bv A c i * (pw A c d (bs x) i : Int) := fb_si_succ _ _
      have s2 : sAll (pw A c d (bs x)) allA (i + 1) = sAll (pw A c d (bs x)) allA i + pw A c d (bs x) i := fb_sm_succ _ _
      have fin : ∀ s0 : Int32, s0 = nI (pw A c d (bs x) i) → wJ_X2_opensBehind_44 52 Q (wL_X2_opensBehind_9 52 Q (m + 1)) M (nI x) (nI d) (Int32.ofInt (sMar (pw A c d (bs x)) (bv A c) allA i)) (nI (sAll (pw A c d (bs x)) allA i)) (nI i) s0 := by
        intro s0 e0
        unfold wJ_X2_opensBehind_44
        rw [ix_nat (by omega), e31, e0]
        refine ⟨hin, fun v2 e2 v3 e3 v4 e4 => ?_⟩
        have h := ih (i + 1) (by omega)
        rw [s1, s2, Int32.ofInt_add, Int32.ofInt_mul, ← ofI_n, ← nI_add] at h
        rw [e2, e3, e4, nI_1]
        exact h
      have hb := bit6t (s := x) (c := i) hx (by omega)
      refine ⟨fun z => ⟨hin, fin _ ?_⟩, fun z => ?_⟩
      · have hbf : ¬ bs x i = true := fun e => (hb.mpr e) z
        rw [ix_nat (by omega), e30]
        unfold pw
        rw [if_neg hbf]
      · have hbt : bs x i = true := hb.mp z
        refine W6_weight hR (V_mk hV (by omega)) (by rw [mk_n.2.2]; omega) (by rw [mk_n.2.1]; exact hd) (fin _ ?_)
        unfold pw
        rw [if_pos hbt]
  exact ⟨np A + 1, go (np A) 0 (by omega)⟩
theorem W9_gt {M : Mem} {B p d : Nat} {A : Tn} {Q : Mem → Prop} (hB : RM M B A) (hB2 : B ≤ 3402) (hV : V A) (hp : p < np A) (hd : d < nd A) (q : Q (ms (ms M 86 (B + mo 9 (6 * p + d)) (nI (tnx A (6 * p + d)))) 86 (B + mo 10 (6 * p + d)) (A 0 5))) : w_X9_goThrough M (nI B) (nI p) (nI d) Q := by
  have hn := (V_np hV).2
  have hm := (V_nd hV).2
  have t9 := V_9 hV hp hd
  have m9 : mo 9 (6 * p + d) = 54 + (6 * p + d) := rfl
  have m10 : mo 10 (6 * p + d) = 90 + (6 * p + d) := rfl
  have e9 : M 86 (B + 54 + 6 * p + d) = nI (na A 9 (6 * p + d)) := by rw [RM_9 hB hp hd, t9.1]
  have e5 : ∀ v, ms M 86 (B + 54 + 6 * p + d) v 86 (B + 4) = A 0 5 := fun v => by
    rw [ms_ne2 (by omega)]
    exact hB.1 5 (by decide)
  have i9 : vp_in (nI (B + 54 + 6 * p + d)) 3528 := vp_in_nI (by omega) (by decide)
  have i10' : vp_in (nI (B + 90 + 6 * p + d)) 3528 := vp_in_nI (by omega) (by decide)
  have i4 : vp_in (nI (B + 4)) 3528 := vp_in_nI (by omega) (by decide)
  have fin : ∀ s3 : Int32, nI (na A 9 (6 * p + d)) + s3 = nI (tnx A (6 * p + d)) → wJ_X9_goThrough_38 Q M (nI B) (nI p) (nI d) (nI (B + 54 + 6 * p + d)) (nI (na A 9 (6 * p + d))) s3 := by
    intro s3 hs
    unfold wJ_X9_goThrough_38
    rw [hs, lin90, ix_nat (by omega), ix_nat (by omega), show nI B + 4 = nI (B + 4) from nI_add B 4]
    intro v1 e1
    refine ⟨i9, fun M3 e3 v4 e4 => ?_⟩
    rw [e4, ix_nat (by omega)]
    refine ⟨i4, fun v6 e6 => ⟨i10', fun M8 e8 => ?_⟩⟩
    rw [e3, e5] at e6
    rw [e8, e6, e3, e1]
    rw [m9, m10, show B + (54 + (6 * p + d)) = B + 54 + 6 * p + d by omega, show B + (90 + (6 * p + d)) = B + 90 + 6 * p + d by omega] at q
    exact q
  unfold w_X9_goThrough
  rw [lin54]
  intro v1 e1
  rw [e1, ix_nat (by omega), e9]
  refine ⟨i9, i9, fun z => fin 0 ?_, fun z => fin 1 ?_⟩
  · have := (nI_leI (a := 99) (by decide) (by omega)).mp z
    unfold tnx
    rw [if_pos (by omega), Int32.add_zero, show na A 9 (6 * p + d) = 99 by omega]
  · have : ¬ 99 ≤ na A 9 (6 * p + d) := fun e => z (nI_le (a := 99) e (by omega))
    unfold tnx
    rw [if_neg (by omega), nI_1]
theorem RM_gt {M : Mem} {B p d : Nat} {A : Tn} (hB : RM M B A) (hV : V A) (hp : p < np A) (hd : d < nd A) {v w : Int32} (hv : ∃ t, t ≤ 99 ∧ v = nI t) : RM (ms (ms M 86 (B + mo 9 (6 * p + d)) v) 86 (B + mo 10 (6 * p + d)) w) B (ms (ms A 9 (6 * p + d) v) 10 (6 * p + d) w) := by
  have h1 := RM_ms (f := 9) (i := 6 * p + d) (v := v) hB hV (Or.inl (rel_9 hp hd))
  have hV1 : V (ms A 9 (6 * p + d) v) := by
    obtain ⟨h0, hdd, hpp, ht⟩ := hV
    have e : ∀ f i, f ≠ 9 → ms A 9 (6 * p + d) v f i = A f i := fun f i hf => by rw [ms_ne hf]
    have en : ∀ f i, f ≠ 9 → na (ms A 9 (6 * p + d) v) f i = na A f i := fun f i hf => by unfold na; rw [e f i hf]
    obtain ⟨n0, n1, n2⟩ := ms_n (A := A) (f := 9) (i := 6 * p + d) (v := v) (by decide)
    unfold V
    rw [n0, n1, n2, en 0 1 (by decide), en 0 4 (by decide), en 0 5 (by decide), e 0 0 (by decide), e 0 1 (by decide), e 0 2 (by decide), e 0 3 (by decide), e 0 4 (by decide), e 0 5 (by decide)]
    refine ⟨h0, fun d' hd2 => ?_, fun q hq => ?_, fun q d' hq hd2 => ?_⟩
    · rw [en 1 d' (by decide), en 2 d' (by decide), e 1 d' (by decide), e 2 d' (by decide)]
      exact hdd d' hd2
    · rw [en 3 q (by decide), en 4 q (by decide), en 5 q (by decide), en 7 q (by decide), en 8 q (by decide), e 3 q (by decide), e 4 q (by decide), e 5 q (by decide), e 6 q (by decide), e 7 q (by decide), e 8 q (by decide)]
      exact hpp q hq
    · unfold na
      rw [ms_app]
      split
      · obtain ⟨t, h1, h2⟩ := hv
        rw [h2, ix_nat (by omega)]
        exact ⟨rfl, h1⟩
      · exact ht q d' hq hd2
  exact RM_ms (f := 10) (i := 6 * p + d) (v := w) h1 hV1 (Or.inl ((ms_rel (by decide) 10 _).mpr (rel_10 hp hd)))
