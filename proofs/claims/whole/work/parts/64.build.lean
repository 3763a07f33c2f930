theorem rel_sc {A B : Tn} (h2 : A 0 2 = B 0 2) (h3 : A 0 3 = B 0 3) (f i : Nat) : rel A f i ↔ rel B f i := by
  have e1 : nd A = nd B := by unfold nd na; rw [h2]
  have e2 : np A = np B := by unfold np na; rw [h3]
  unfold rel
  rw [e1, e2]
theorem V_sc {A : Tn} (h : V A) : (0 < np A ↔ 0 < nd A) ∧ (0 < nr A → 0 < np A) := h.1.2.2.2.2.2.2.2.2.2.2.2.2
/-- a DOOR between x and y laid at d, with i PEOPLE's TIMES made -/
def adM (M : Mem) (T d : Nat) (x y : Int32) (i : Nat) : Mem := fun k j => if k = T + 1 ∧ j = d then x else if k = T + 2 ∧ j = d then y else if k = T + 9 ∧ j % 6 = d ∧ j < 6 * i then 0 else if k = T + 10 ∧ j % 6 = d ∧ j < 6 * i then -1000000 else M k j
theorem adM_s {M : Mem} {T d : Nat} {x y : Int32} {i : Nat} (hd : d < 6) : ms (ms (adM M T d x y i) (T + 9) (6 * i + d) 0) (T + 10) (6 * i + d) (-1000000) = adM M T d x y (i + 1) := by
  funext k j
  rw [ms_app, ms_app]
  unfold adM
  by_cases e1 : k = T + 10 ∧ j = 6 * i + d
  · rw [if_pos e1, if_neg (by omega), if_neg (by omega), if_neg (by omega), if_pos (by omega)]
  · rw [if_neg e1]
    by_cases e2 : k = T + 9 ∧ j = 6 * i + d
    · rw [if_pos e2, if_neg (by omega), if_neg (by omega), if_pos (by omega)]
    · rw [if_neg e2]
      by_cases e3 : k = T + 1 ∧ j = d
      · rw [if_pos e3, if_pos e3]
      · rw [if_neg e3, if_neg e3]
        by_cases e4 : k = T + 2 ∧ j = d
        · rw [if_pos e4, if_pos e4]
        · rw [if_neg e4, if_neg e4]
          by_cases e5 : k = T + 9 ∧ j % 6 = d ∧ j < 6 * i
          · rw [if_pos e5, if_pos (by omega)]
          · by_cases e6 : k = T + 10 ∧ j % 6 = d ∧ j < 6 * i
            · rw [if_neg e5, if_pos e6, if_neg (by omega), if_pos (by omega)]
            · rw [if_neg e5, if_neg e6, if_neg (by omega), if_neg (by omega)]
theorem W6_addDoor {M : Mem} {T d : Nat} {x y : Int32} {Q : Mem → Prop} (hd : d < 6) (h2 : M T 2 = nI d) (q : Q (ms (adM M T d x y 6) T 2 (nI (d + 1)))) : w_X6_addDoor T M x y Q := by
  unfold w_X6_addDoor
  have hin : vp_in (nI d) 6 := vp_in_nI hd (by decide)
  rw [h2, ix_nat (by omega)]
  refine ⟨hin, fun M2 e2 => ?_⟩
  have k2 : M2 T 2 = nI d := by rw [e2, ms_ne (by omega), h2]
  rw [k2, ix_nat (by omega)]
  refine ⟨hin, fun M4 e4 => ⟨7, ?_⟩⟩
  have e0 : M4 = adM M T d x y 0 := by
    rw [e4, e2]
    funext k j
    rw [ms_app, ms_app]
    unfold adM
    by_cases q1 : k = T + 2 ∧ j = d
    · rw [if_pos q1, if_neg (by omega), if_pos q1]
    · rw [if_neg q1]
      by_cases q2 : k = T + 1 ∧ j = d
      · rw [if_pos q2, if_pos q2]
      · rw [if_neg q2, if_neg q2, if_neg q1, if_neg (by omega), if_neg (by omega)]
  have a2 : ∀ i, adM M T d x y i T 2 = nI d := by
    intro i
    unfold adM
    rw [if_neg (by omega), if_neg (by omega), if_neg (by omega), if_neg (by omega), h2]
  have go : ∀ m i : Nat, i + m = 6 → wL_X6_addDoor_22 T Q (m + 1) (adM M T d x y i) (nI i) := by
    intro m
    induction m with
    | zero =>
      intro i hi
      have hi : i = 6 := by omega
      subst hi
      refine ⟨fun _ v2 ev2 M3 e3 => ?_, fun e => absurd (nI_le (a := 6) (b := 6) (by omega) (by decide)) e⟩
      rw [e3, ev2, a2, nI_1]; exact q
    | succ m ih =>
      intro i hi
      refine ⟨fun e => absurd e (nI_ge (a := i) (b := 6) (by omega) (by decide)), fun _ => ?_⟩
      unfold w_X6_cellOf
      rw [a2, cel]
      refine ⟨vp_in_nI (by omega) (by decide), fun M7 e7 => ?_⟩
      have k7 : M7 T 2 = nI d := by rw [e7, ms_ne (by omega), a2]
      show _ ∧ _
      rw [k7, cel]
      refine ⟨vp_in_nI (by omega) (by decide), fun M11 e11 v12 e12 => ?_⟩
      rw [e12, nI_1]
      have : M11 = adM M T d x y (i + 1) := by
        rw [e11, e7, ix_nat (by omega), adM_s hd]
      rw [this]
      exact ih (i + 1) (by omega)
  rw [e0]
  exact go 6 0 (by omega)
/-- the TOWN with a new DOOR -/
def bldA (A : Tn) (d : Nat) (x y : Int32) : Tn := fun f i => if f = 0 ∧ i = 2 then nI (d + 1) else if f = 1 ∧ i = d then x else if f = 2 ∧ i = d then y else if f = 9 ∧ i % 6 = d ∧ i < 36 then 0 else if f = 10 ∧ i % 6 = d ∧ i < 36 then -1000000 else A f i
theorem cv_ad (M : Mem) (T d : Nat) (x y : Int32) : cv (ms (adM M T d x y 6) T 2 (nI (d + 1))) T = bldA (cv M T) d x y := by
  funext f i
  unfold cv bldA
  rw [ms_app]
  unfold adM
  by_cases hf : f ≤ 10
  · rw [if_pos hf]
    by_cases e0 : f = 0 ∧ i = 2
    · rw [if_pos e0, if_pos (by omega)]
    · rw [if_neg e0, if_neg (by omega)]
      by_cases e1 : f = 1 ∧ i = d
      · rw [if_pos e1, if_pos (by omega)]
      · rw [if_neg e1, if_neg (by omega)]
        by_cases e2 : f = 2 ∧ i = d
        · rw [if_pos e2, if_pos (by omega)]
        · rw [if_neg e2, if_neg (by omega)]
          by_cases e3 : f = 9 ∧ i % 6 = d ∧ i < 36
          · rw [if_pos e3, if_pos (by omega)]
          · rw [if_neg e3, if_neg (by omega)]
            by_cases e4 : f = 10 ∧ i % 6 = d ∧ i < 36
            · rw [if_pos e4, if_pos (by omega)]
            · rw [if_neg e4, if_neg (by omega)]
              exact (if_pos hf).symm
  · rw [if_neg hf, if_neg (by omega), if_neg (by omega), if_neg (by omega), if_neg (by omega), if_neg (by omega)]
    exact (if_neg hf).symm
theorem ad_fr (M : Mem) (d : Nat) (x y : Int32) (v : Int32) : Fr SC M (ms (adM M 41 d x y 6) 41 2 v) := by
  intro k j h
  unfold SC at h
  rw [ms_app, if_neg (by omega)]
  unfold adM
  rw [if_neg (by omega), if_neg (by omega), if_neg (by omega), if_neg (by omega)]
theorem bld_n {A : Tn} {d : Nat} {x y : Int32} (hd : d < 6) : nd (bldA A d x y) = d + 1 ∧ np (bldA A d x y) = np A ∧ nr (bldA A d x y) = nr A := by
  refine ⟨?_, ?_, ?_⟩
  · unfold nd na bldA; rw [if_pos ⟨rfl, rfl⟩, ix_nat (by omega)]
  · rfl
  · rfl
theorem V_bld {A : Tn} {x y : Nat} (h : V A) (hd : nd A < 6) (hx : x < nr A) (hy : y < nr A) (hxy : x ≠ y) : V (bldA A (nd A) (nI x) (nI y)) := by
  obtain ⟨n1, n2, n0⟩ := bld_n (A := A) (x := nI x) (y := nI y) hd
  have hr6 := (V_nr h).2
  have hp6 := (V_np h).2
  have hsc := V_sc h
  obtain ⟨⟨a1, a2, a3, a4, a5, a6, a7, a8, a9, a10, a11, a12, a13⟩, hdd, hp, h9⟩ := h
  have ep : ∀ f i, 3 ≤ f → f ≤ 8 → bldA A (nd A) (nI x) (nI y) f i = A f i := fun f i h1 h2 => by
    unfold bldA
    rw [if_neg (by omega), if_neg (by omega), if_neg (by omega), if_neg (by omega), if_neg (by omega)]
  have enp : ∀ f i, 3 ≤ f → f ≤ 8 → na (bldA A (nd A) (nI x) (nI y)) f i = na A f i := fun f i h1 h2 => by unfold na; rw [ep f i h1 h2]
  unfold V
  rw [n1, n2, n0]
  refine ⟨⟨a1, a2, a3, a4, rfl, by omega, a7, a8, a9, a10, a11, a12, ⟨fun _ => by omega, fun _ => hsc.2 (by omega)⟩, hsc.2⟩, fun d hd2 => ?_, fun q hq => ?_, fun q d hq hd2 => ?_⟩
  · by_cases e : d = nd A
    · subst e
      have b1 : bldA A (nd A) (nI x) (nI y) 1 (nd A) = nI x := by unfold bldA; rw [if_neg (by omega), if_pos ⟨rfl, rfl⟩]
      have b2 : bldA A (nd A) (nI x) (nI y) 2 (nd A) = nI y := by unfold bldA; rw [if_neg (by omega), if_neg (by omega), if_pos ⟨rfl, rfl⟩]
      have c1 : na (bldA A (nd A) (nI x) (nI y)) 1 (nd A) = x := by unfold na; rw [b1, ix_nat (by omega)]
      have c2 : na (bldA A (nd A) (nI x) (nI y)) 2 (nd A) = y := by unfold na; rw [b2, ix_nat (by omega)]
      rw [c1, c2, b1, b2]
      exact ⟨rfl, rfl, hx, hy, hxy⟩
    · have b1 : bldA A (nd A) (nI x) (nI y) 1 d = A 1 d := by unfold bldA; rw [if_neg (by omega), if_neg (by omega), if_neg (by omega), if_neg (by omega), if_neg (by omega)]
      have b2 : bldA A (nd A) (nI x) (nI y) 2 d = A 2 d := by unfold bldA; rw [if_neg (by omega), if_neg (by omega), if_neg (by omega), if_neg (by omega), if_neg (by omega)]
      have c1 : na (bldA A (nd A) (nI x) (nI y)) 1 d = na A 1 d := by unfold na; rw [b1]
      have c2 : na (bldA A (nd A) (nI x) (nI y)) 2 d = na A 2 d := by unfold na; rw [b2]
      rw [c1, c2, b1, b2]
      exact hdd d (by omega)
  · rw [enp 3 q (by decide) (by decide), enp 4 q (by decide) (by decide), enp 5 q (by decide) (by decide), enp 7 q (by decide) (by decide), enp 8 q (by decide) (by decide), ep 3 q (by decide) (by decide), ep 4 q (by decide) (by decide), ep 5 q (by decide) (by decide), ep 6 q (by decide) (by decide), ep 7 q (by decide) (by decide), ep 8 q (by decide) (by decide)]
    exact hp q hq
  · by_cases e : d = nd A
    · have b9 : bldA A (nd A) (nI x) (nI y) 9 (6 * q + d) = 0 := by
        unfold bldA
        rw [if_neg (by omega), if_neg (by omega), if_neg (by omega), if_pos (by omega)]
      have c9 : na (bldA A (nd A) (nI x) (nI y)) 9 (6 * q + d) = 0 := by unfold na; rw [b9]; rfl
      rw [c9, b9]
      exact ⟨rfl, by omega⟩
    · have b9 : bldA A (nd A) (nI x) (nI y) 9 (6 * q + d) = A 9 (6 * q + d) := by
        unfold bldA
        rw [if_neg (by omega), if_neg (by omega), if_neg (by omega), if_neg (by omega), if_neg (by omega)]
      have c9 : na (bldA A (nd A) (nI x) (nI y)) 9 (6 * q + d) = na A 9 (6 * q + d) := by unfold na; rw [b9]
      rw [c9, b9]
      exact h9 q d hq (by omega)
theorem mo_1 (i : Nat) : mo 1 i = 6 + 2 * i := rfl
theorem mo_2 (i : Nat) : mo 2 i = 7 + 2 * i := rfl
theorem RM_bld {M : Mem} {A : Tn} {B : Nat} {x y : Int32} (h : RM M B A) (hV : V A) (hd : nd A < 6) : RM (ms (ms (ms M 86 (B + (6 + 2 * nd A)) x) 86 (B + (7 + 2 * nd A)) y) 86 (B + 2) (nI (nd A + 1))) B (bldA A (nd A) x y) := by
  obtain ⟨n1, n2, n0⟩ := bld_n (A := A) (x := x) (y := y) hd
  have hp6 := (V_np hV).2
  refine ⟨fun j hj => ?_, fun f i hr => ?_, fun p d hp hd2 hn => ?_⟩
  · by_cases e : j = 2
    · subst e
      show ms _ 86 (B + 2) _ 86 (B + 2) = _
      rw [ms_eq]; rfl
    · have hm : mo 0 j < 6 ∧ mo 0 j ≠ 2 := by
        unfold mo
        repeat (first | omega | split)
      rw [ms_ne2 (by omega), ms_ne2 (by omega), ms_ne2 (by omega), h.1 j hj]
      unfold bldA
      rw [if_neg (by omega), if_neg (by omega), if_neg (by omega), if_neg (by omega), if_neg (by omega)]
  · by_cases e1 : f = 1 ∧ i = nd A
    · rw [e1.1, e1.2, mo_1, ms_ne2 (by omega), ms_ne2 (by omega), ms_eq]
      unfold bldA
      rw [if_neg (by omega), if_pos ⟨rfl, rfl⟩]
    · by_cases e2 : f = 2 ∧ i = nd A
      · rw [e2.1, e2.2, mo_2, ms_ne2 (by omega), ms_eq]
        unfold bldA
        rw [if_neg (by omega), if_neg (by omega), if_pos ⟨rfl, rfl⟩]
      · have hrd : dom f i := by
          unfold dom
          unfold rel at hr
          rw [n1, n2] at hr
          rcases hr with z | z | ⟨z, p, d, h3, h4, h5⟩ <;> omega
        have hf := rel_f hr
        have m1 : mo f i ≠ 6 + 2 * nd A := fun q => e1 (mo_inj hrd (g := 1) (j := nd A) (Or.inl ⟨by omega, by omega⟩) (by rw [mo_1]; exact q))
        have m2 : mo f i ≠ 7 + 2 * nd A := fun q => e2 (mo_inj hrd (g := 2) (j := nd A) (Or.inl ⟨by omega, by omega⟩) (by rw [mo_2]; exact q))
        have m0 : mo f i ≠ 2 := fun q => by
          have := mo_inj hrd (g := 0) (j := 2) (Or.inl ⟨by omega, by omega⟩) (by rw [q]; rfl)
          omega
        rw [ms_ne2 (by omega), ms_ne2 (by omega), ms_ne2 (by omega)]
        unfold rel at hr
        rw [n1, n2] at hr
        rcases hr with z | z | ⟨z, p, d, h3, h4, h5⟩
        · rw [h.2.1 f i (Or.inl (by omega))]
          unfold bldA
          rw [if_neg (by omega), if_neg (by omega), if_neg (by omega), if_neg (by omega), if_neg (by omega)]
        · rw [h.2.1 f i (Or.inr (Or.inl z))]
          unfold bldA
          rw [if_neg (by omega), if_neg (by omega), if_neg (by omega), if_neg (by omega), if_neg (by omega)]
        · by_cases ed : d = nd A
          · obtain ⟨z9, z10⟩ := h.2.2 p d (by omega) (by omega) (by omega)
            unfold bldA
            rcases z with z | z
            · rw [z, h5, if_neg (by omega), if_neg (by omega), if_neg (by omega), if_pos (by omega)]
              show M 86 (B + (54 + (6 * p + d))) = 0
              rw [show B + (54 + (6 * p + d)) = B + 54 + 6 * p + d by omega]; exact z9
            · rw [z, h5, if_neg (by omega), if_neg (by omega), if_neg (by omega), if_neg (by omega), if_pos (by omega)]
              show M 86 (B + (90 + (6 * p + d))) = -1000000
              rw [show B + (90 + (6 * p + d)) = B + 90 + 6 * p + d by omega]; exact z10 (by omega)
          · rw [h.2.1 f i (Or.inr (Or.inr ⟨z, p, d, h3, by omega, h5⟩))]
            unfold bldA
            rw [if_neg (by omega), if_neg (by omega), if_neg (by omega), if_neg (by omega), if_neg (by omega)]
  · rw [n1, n2] at hn
    rw [ms_ne2 (by omega), ms_ne2 (by omega), ms_ne2 (by omega), ms_ne2 (by omega), ms_ne2 (by omega), ms_ne2 (by omega), n2]
    exact h.2.2 p d hp hd2 (by omega)
theorem S_build (M : Mem) (a b : Int32) (n nx : Nat) (h : Hist M n nx) : w_X8_build M a b (fun r M1 => w_X9_build M1 a b (fun r2 M2 => PAct M r r2 M2)) := by
  obtain ⟨hV, hM⟩ := H_cur h
  obtain ⟨g1, g2, g3, g4, g5⟩ := H_n h
  have hr6 := (V_nr hV).2
  have hd6 := (V_nd hV).2
  have e2 : M 41 2 = nI (nd (cv M 41)) := (V_nd hV).1
  have m2 : M 86 2 = nI (nd (cv M 41)) := (RM0 hM (j := 2) (by decide)).trans (V_nd hV).1
  unfold w_X8_build
  refine R8 (RC_cv M 41) hV (fun x hx e => br1 ?_) (fun hne => br0 ?_)
  · subst e
    refine R8 (RC_cv M 41) hV (fun y hy e => br1 ?_) (fun hne => br0 ?_)
    · subst e
      have m9 : ∀ M1 : Mem, (∀ i, M1 86 i = M 86 i) → ∀ R : Int32 → Mem → Prop, (nI x = nI y → R (-1000001) M1) → (¬ nI x = nI y → ((¬ M1 86 2 = 6 → w_X9_keepPast M1 (fun M9 => ∀ v11 : Int32, v11 = (M9 86 2) → (vp_in (6 + (2 * v11)) 3528 ∧ (∀ M13 : Mem, M13 = ms M9 86 (Int32.toNatClampNeg (6 + (2 * v11))) (nI x) → (vp_in ((6 + (2 * v11)) + 1) 3528 ∧ (∀ M15 : Mem, M15 = ms M13 86 (Int32.toNatClampNeg ((6 + (2 * v11)) + 1)) (nI y) → (∀ v16 : Int32, v16 = ((M15 86 2) + 1) → (∀ M17 : Mem, M17 = ms M15 86 2 v16 → (R v11 M17))))))))) ∧ (M1 86 2 = 6 → R (-1000003) M1))) → w_X9_build M1 (nI x) (nI y) R := by
        intro M1 hF R h1 h2
        have hM1 : RM M1 0 (cv M 41) := RM_86 hM hV hF
        unfold w_X9_build
        refine R9 hM1 hV (fun p2 hp2 e => br1 ?_) (fun h => absurd ⟨x, hx, rfl⟩ h)
        exact R9 hM1 hV (fun p2 hp2 e => br1 ⟨fun z => h2 z, fun z => h1 z⟩) (fun h => absurd ⟨y, hy, rfl⟩ h)
      refine ⟨fun z => ⟨fun z2 => ?_, fun z2 => ?_⟩, fun z => m9 M (fun _ => rfl) _ (fun _ => pa_same h _) (fun y => absurd z y)⟩
      · have hd : nd (cv M 41) < 6 := by
          rcases Nat.lt_or_ge (nd (cv M 41)) 6 with q | q
          · exact q
          · exact absurd (by rw [e2, show nd (cv M 41) = 6 by omega]; rfl) z2
        have hxy : x ≠ y := fun e => z (by rw [e])
        rw [e2]
        refine W0_keep g1 g2 g5 g3 ?_
        have eK := kpC_ring (M := M) (n := n) (nx := nx) (a := 5) (p := 0) (d := nI (nd (cv M 41)))
        have ck : cv (kpC M n nx 5 0 (nI (nd (cv M 41)))) 41 = cv M 41 := cv_eq (fun f i hf => kpC_o (by omega) i)
        refine W6_addDoor (d := nd (cv M 41)) hd (by rw [kpC_o (by decide), e2]) ?_
        rw [ms_eq, nI_pred]
        generalize hM1e : ms (adM (kpC M n nx 5 0 (nI (nd (cv M 41)))) 41 (nd (cv M 41)) (nI x) (nI y) 6) 41 2 (nI (nd (cv M 41) + 1)) = M1
        have hF1 : Fr SC M M1 := by rw [← hM1e]; exact Fr_tr kpC_fr (ad_fr _ _ _ _ _)
        have ec : cv M1 41 = bldA (cv M 41) (nd (cv M 41)) (nI x) (nI y) := by rw [← hM1e, cv_ad, ck]
        have o86 : ∀ i, M1 86 i = M 86 i := fun i => hF1 86 i (by unfold SC; omega)
        have o851 : M1 85 1 = nI n := (hF1 85 1 (by unfold SC; omega)).trans g4
        have o21 : ∀ k j, 21 ≤ k → k ≤ 26 → M1 k j = kpC M n nx 5 0 (nI (nd (cv M 41))) k j := by
          intro k j h1 h2
          rw [← hM1e, ms_ne (by omega)]
          unfold adM
          rw [if_neg (by omega), if_neg (by omega), if_neg (by omega), if_neg (by omega)]
        refine m9 M1 o86 _ (fun y => absurd y z) (fun _ => ⟨fun _ => ?_, fun y => absurd ?_ z2⟩)
        · refine W9_keepPast g1 o851 (fun M2 hK => ?_)
          have k2 : M2 86 2 = nI (nd (cv M 41)) := by rw [hK.2.2.1 2 (by decide), o86, m2]
          intro v11 e11
          rw [k2] at e11
          rw [e11, show 6 + 2 * nI (nd (cv M 41)) = nI (6 + 2 * nd (cv M 41)) from by rw [show (2 : Int32) = nI 2 from rfl, show (6 : Int32) = nI 6 from rfl, pk_mul, nI_add], nI_1, ix_nat (by omega), ix_nat (by omega)]
          refine ⟨vp_in_nI (by omega) (by decide), fun M13 e13 => ⟨vp_in_nI (by omega) (by decide), fun M15 e15 v16 e16 M17 e17 => ?_⟩⟩
          have k15 : M15 86 2 = nI (nd (cv M 41)) := by rw [e15, ms_ne2 (by omega), e13, ms_ne2 (by omega), k2]
          rw [k15, nI_1] at e16
          have hV1 : V (cv M1 41) := by rw [ec]; exact V_bld hV hd hx hy hxy
          have hMk : RM M2 0 (cv M 41) := RM_fr (RM_86 hM hV o86) hV (fun i hi => by rw [Nat.zero_add]; exact hK.2.2.1 i hi)
          have hM3 : RM M17 0 (cv M1 41) := by
            rw [ec]
            have := RM_bld (x := nI x) (y := nI y) hMk hV hd
            rw [Nat.zero_add, Nat.zero_add, Nat.zero_add] at this
            rw [e17, e16, e15, e13, show 6 + 2 * nd (cv M 41) + 1 = 7 + 2 * nd (cv M 41) by omega]
            exact this
          have hE : EOkR M1 nx (cv M1 41) := by
            unfold EOkR EOk
            rw [o21 22 nx (by decide) (by decide), eK.2.2.2.1, ec, (bld_n hd).1]
            exact ⟨⟨fun e => absurd e (by decide), fun e => by rcases e with e | e <;> exact absurd e (by decide), fun _ => by omega⟩, fun e => absurd e (by decide), fun e => by rcases e with e | e <;> exact absurd e (by decide)⟩
          have hu : Alk (uR M1 nx (cv M1 41)) (cv M 41) := by
            unfold uR uA
            rw [o21 22 nx (by decide) (by decide), eK.2.2.2.1, if_neg (by decide), if_neg (by decide), if_neg (by decide), if_neg (by decide), if_pos rfl, ec]
            have b2 : bldA (cv M 41) (nd (cv M 41)) (nI x) (nI y) 0 2 - 1 = cv M 41 0 2 := by
              show nI (nd (cv M 41) + 1) - 1 = cv M 41 0 2
              rw [nI_pred]; exact (V_nd hV).1.symm
            rw [b2]
            have hs2 : ∀ j, ms (bldA (cv M 41) (nd (cv M 41)) (nI x) (nI y)) 0 2 (cv M 41 0 2) 0 j = cv M 41 0 j := by
              intro j
              rw [ms_app]
              by_cases e : j = 2
              · rw [if_pos ⟨rfl, e⟩, e]
              · rw [if_neg (fun q => e q.2)]
                unfold bldA
                rw [if_neg (by omega), if_neg (by omega), if_neg (by omega), if_neg (by omega), if_neg (by omega)]
            refine ⟨fun j _ => hs2 j, fun f i hr => ?_⟩
            have hr2 : rel (cv M 41) f i := (rel_sc (hs2 2) (hs2 3) f i).mp hr
            have hf := rel_f hr2
            rw [ms_ne (by omega)]
            unfold bldA
            rcases hr2 with w | w | ⟨w, p', d', y1, y2, y3⟩
            · rw [if_neg (by omega), if_neg (by omega), if_neg (by omega), if_neg (by omega), if_neg (by omega)]
            · rw [if_neg (by omega), if_neg (by omega), if_neg (by omega), if_neg (by omega), if_neg (by omega)]
            · rw [if_neg (by omega), if_neg (by omega), if_neg (by omega), if_neg (by omega), if_neg (by omega)]
          have hh := Hist_both (M3 := M17) h hF1 (fun q h1 h2 => by
            rw [o21 _ _ (by decide) (by decide), o21 _ _ (by decide) (by decide), o21 _ _ (by decide) (by decide), o21 _ _ (by decide) (by decide), o21 _ _ (by decide) (by decide)]
            exact eK.1 q h1 h2) (by rw [o21 _ _ (by decide) (by decide)]; exact eK.2.1) (by rw [o21 _ _ (by decide) (by decide)]; exact eK.2.2.1) hK (fun k j hkj => by rw [e17, e15, e13, ms_app, if_neg (by omega), ms_app, if_neg (by omega), ms_app, if_neg (by omega)]) hV1 hM3 hE hu (by rw [ec]; exact H_day h)
          exact ⟨rfl, ⟨_, _, hh.1⟩, hh.2⟩
        · rw [o86, m2] at y; rw [e2]; exact y
      · exact m9 M (fun _ => rfl) _ (fun y => absurd y z) (fun _ => ⟨fun y => absurd (by rw [m2, ← e2]; exact z2) y, fun _ => pa_same h _⟩)
    · unfold w_X9_build
      refine R9 hM hV (fun p2 hp2 e => br1 ?_) (fun h => absurd ⟨x, hx, rfl⟩ h)
      exact R9 hM hV (fun p hp e => absurd ⟨p, hp, e⟩ hne) (fun _ => br0 (pa_same h _))
  · unfold w_X9_build
    exact R9 hM hV (fun p hp e => absurd ⟨p, hp, e⟩ hne) (fun _ => br0 (pa_same h _))
