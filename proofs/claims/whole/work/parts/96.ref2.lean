theorem n2_0 {B : NT} {f i v j : Nat} (hf : f ≠ 0) : n2 B f i v 0 j = B 0 j := if_neg (fun e => hf e.1.symm)
theorem W9_kl {M : Mem} {x : Int32} {Q : Int32 → Mem → Prop} (q : Q (nI (kL x)) M) : w_X9_kindOfLetter M x Q := by
  unfold w_X9_kindOfLetter
  unfold kL at q
  by_cases e1 : x = 112
  · rw [if_pos e1] at q
    exact ⟨fun z => absurd e1 z, fun _ => q⟩
  · rw [if_neg e1] at q
    refine ⟨fun _ => ?_, fun z => absurd z e1⟩
    by_cases e2 : x = 102
    · rw [if_pos e2] at q
      exact ⟨fun z => absurd e2 z, fun _ => q⟩
    · rw [if_neg e2] at q
      refine ⟨fun _ => ?_, fun z => absurd z e2⟩
      by_cases e3 : x = 115
      · rw [if_pos e3] at q
        exact ⟨fun z => absurd e3 z, fun _ => q⟩
      · rw [if_neg e3] at q
        refine ⟨fun _ => ?_, fun z => absurd z e3⟩
        by_cases e4 : x = 107
        · rw [if_pos e4] at q
          exact ⟨fun z => absurd e4 z, fun _ => q⟩
        · rw [if_neg e4] at q
          refine ⟨fun _ => ?_, fun z => absurd z e4⟩
          by_cases e5 : x = 110
          · rw [if_pos e5] at q
            exact ⟨fun z => absurd e5 z, fun _ => q⟩
          · rw [if_neg e5] at q
            exact ⟨fun _ => q, fun z => absurd z e5⟩
theorem l86 {c f i : Nat} (h3 : 3 ≤ f) (h8 : f ≤ 8) (hc : c = 3402 + 6 * f) : nI c + nI i = nI (3402 + mo f i) := by
  rw [nI_add]
  exact congrArg nI (by rw [mo_f h3 h8]; omega)
section RF2
variable {t : Nat → Int32} {L : Nat} {Q : Int32 → Mem → Prop}
theorem R_person {n i : Nat} {B : NT} {M : Mem} (hL : L ≤ 120) (h : TR M t L i) (hs : i < L ∧ kL (t i) ≠ 0) (hG : GB B) (hR : RMp M B) (q0 : ∀ f p, peS t L (n + 1) i B = .inl (f, p) → ∀ M1, Fr St9r M M1 → M1 85 12 = nI p → M1 85 13 = nI f → Q 0 M1) (q1 : ∀ a j b k, ¬ B 0 3 = 6 → pa t L (i + 1) 0 (B 0 0 - 1) no1 44 = .inr (a, j) → pa t L j 0 6 no1 59 = .inr (b, k) → ∀ M1, Fr St9r M M1 → TR M1 t L k → RMp M1 (adP B (kL (t i)) a b) → Q 1 M1) : w_X9_readsPerson M Q := by
  have hB := hG.1
  have l1 : (3420 : Int32) + nI (B 0 3) = nI (3402 + mo 3 (B 0 3)) := l86 (c := 3420) (by decide) (by decide) rfl
  have l2 : (3426 : Int32) + nI (B 0 3) = nI (3402 + mo 4 (B 0 3)) := l86 (c := 3426) (by decide) (by decide) rfl
  have l3 : (3432 : Int32) + nI (B 0 3) = nI (3402 + mo 5 (B 0 3)) := l86 (c := 3432) (by decide) (by decide) rfl
  have m1 : mo 3 (B 0 3) = 6 * 3 + B 0 3 := mo_f (by decide) (by decide)
  have m2 : mo 4 (B 0 3) = 6 * 4 + B 0 3 := mo_f (by decide) (by decide)
  have m3 : mo 5 (B 0 3) = 6 * 5 + B 0 3 := mo_f (by decide) (by decide)
  unfold w_X9_readsPerson
  rw [(RMp_s hR).2.2.1]
  intro v1 ev1
  subst ev1
  refine ⟨fun x v3 e3 => ?_, fun x M29 e29 => ⟨Or.inl rfl, ?_⟩⟩
  · have x : ¬ B 0 3 = 6 := fun e => x (by rw [e]; rfl)
    rw [h.2.2] at e3
    subst e3
    rw [ix_nat (j := i) (by omega), h.2.1 i hs.1]
    refine ⟨vp_in_nI (by omega) (by decide), W9_kl ?_⟩
    rw [l1, ix_nat (j := 3402 + mo 3 (B 0 3)) (by omega)]
    refine ⟨vp_in_nI (by omega) (by decide), fun M8 e8 v9 e9 M10 e10 => ?_⟩
    have k8 : M8 85 12 = nI i := by rw [e8, ms_ne (by decide), h.2.2]
    rw [k8, nI_1] at e9
    have f10 : Fr St9r M M10 := by rw [e10, e8]; exact f85 (f86 (Fr_rf _ _) _ (by omega)) _ (by decide) (by decide)
    have h10 : TR M10 t L (i + 1) := TR_fr h f10 (by rw [e10, ms_eq, e9])
    have hR10 : RMp M10 (n2 B 3 (B 0 3) (kL (t i))) := by rw [e10, e8]; exact RMp_fr (RMp_ms hR (df (by decide) (by omega)) (by decide)) (n86 _ _ _)
    have r10 : M10 86 3402 = nI (B 0 0) := (RMp_s hR10).1.trans (congrArg nI (n2_0 (by decide)))
    rw [r10, nI_m (by omega)]
    refine W9_num (lo := 0) h10 hL (by omega) (by decide) (by omega) (fun ok M11 g1 g2 g3 => ⟨fun e => absurd rfl e, fun _ => ?_⟩) (fun ok hr M11 g1 g2 g3 => ⟨fun e => absurd rfl e, fun _ => ?_⟩) (fun ok hr M11 g1 g2 g3 => ⟨fun _ v14 e14 => ?_, fun e => absurd e (by decide)⟩)
    · exact q0 1 _ (peS_1 hs x (pa_1 ok)) M11 (Fr_tr f10 (St_r g1)) g2 g3
    · exact q0 2 _ (peS_1 hs x (pa_2 ok (fun e => hr ⟨e.1, e.2.1⟩))) M11 (Fr_tr f10 (St_r g1)) g2 g3
    · have bb := nOk_b ok
      rw [g3] at e14
      have f11 := Fr_tr f10 (St_r g1)
      have hR11 := RMp_fr hR10 (St_86 g1)
      rw [l2, ix_nat (j := 3402 + mo 4 (B 0 3)) (by omega)]
      refine ⟨vp_in_nI (by omega) (by decide), fun M16 e16 => ?_⟩
      have f16 : Fr St9r M M16 := by rw [e16]; exact f86 f11 _ (by omega)
      have h16 : TR M16 t L (i + 1 + nsz t L (i + 1)) := TR_fr h f16 (by rw [e16, ms_ne (by decide), g2])
      have hR16 : RMp M16 (n2 (n2 B 3 (B 0 3) (kL (t i))) 4 (B 0 3) (nvl t L (i + 1))) := by rw [e16, e14]; exact RMp_ms hR11 (df (by decide) (by omega)) (by decide)
      refine W9_sign h16 hL (by omega) (fun hs2 => ⟨fun e => absurd e (by decide), fun _ => ?_⟩) (fun hs2 => ⟨fun _ => ?_, fun e => absurd rfl e⟩)
      · have e1 := pa_4 (bar := no1) ok ⟨hr.1, hr.2, rfl⟩ hs2
        generalize em : ms M16 85 12 (nI (i + 1 + nsz t L (i + 1) + 1)) = M17
        have f17 : Fr St9r M M17 := by rw [← em]; exact f85 f16 _ (by decide) (by decide)
        have h17 : TR M17 t L (i + 1 + nsz t L (i + 1) + 1) := TR_fr h f17 (by rw [← em, ms_eq])
        have hR17 : RMp M17 (n2 (n2 B 3 (B 0 3) (kL (t i))) 4 (B 0 3) (nvl t L (i + 1))) := by rw [← em]; exact RMp_fr hR16 (n86 _ _ _)
        generalize i + 1 + nsz t L (i + 1) + 1 = j at e1 h17
        generalize nvl t L (i + 1) = a at e1 hR17
        have b1 := pa_r e1
        refine W9_num (lo := 0) (hi := 6) h17 hL b1.2.2.2 (by decide) (by decide) (fun ok2 M20 k1 k2 k3 => ⟨fun e => absurd rfl e, fun _ => ?_⟩) (fun ok2 hr2 M20 k1 k2 k3 => ⟨fun e => absurd rfl e, fun _ => ?_⟩) (fun ok2 hr2 M20 k1 k2 k3 => ⟨fun _ v23 e23 => ?_, fun e => absurd e (by decide)⟩)
        · exact q0 1 j (peS_2 hs x e1 (pa_1 ok2)) M20 (Fr_tr f17 (St_r k1)) k2 k3
        · exact q0 2 j (peS_2 hs x e1 (pa_2 ok2 (fun e => hr2 ⟨e.1, e.2.1⟩))) M20 (Fr_tr f17 (St_r k1)) k2 k3
        · have bb2 := nOk_b ok2
          rw [k3] at e23
          have hR20 := RMp_fr hR17 (St_86 k1)
          rw [l3, ix_nat (j := 3402 + mo 5 (B 0 3)) (by omega)]
          refine ⟨vp_in_nI (by omega) (by decide), fun M25 e25 v26 e26 M27 e27 => ?_⟩
          have hR25 : RMp M25 (n2 (n2 (n2 B 3 (B 0 3) (kL (t i))) 4 (B 0 3) a) 5 (B 0 3) (nvl t L j)) := by rw [e25, e23]; exact RMp_ms hR20 (df (by decide) (by omega)) (by decide)
          have r25 : M25 86 3405 = nI (B 0 3) := (RMp_s hR25).2.2.1.trans (congrArg nI (by rw [n2_0 (by decide), n2_0 (by decide), n2_0 (by decide)]))
          rw [r25, nI_1] at e26
          have hR27 : RMp M27 (adP B (kL (t i)) a (nvl t L j)) := by rw [e27, e26]; exact RMp_ms (f := 0) (i := 3) hR25 (d0 (by decide)) (by decide)
          have f27 : Fr St9r M M27 := by rw [e27, e25]; exact f86 (f86 (Fr_tr f17 (St_r k1)) _ (by omega)) _ (by decide)
          have h27 : TR M27 t L (j + nsz t L j) := TR_fr h f27 (by rw [e27, ms_ne (by decide), e25, ms_ne (by decide), k2])
          refine W9_sign h27 hL (by omega) (fun hs3 => ⟨Or.inr rfl, ?_⟩) (fun hs3 => ⟨Or.inl rfl, ?_⟩)
          · have f28 := f85 f27 (nI (j + nsz t L j + 1)) (j := 12) (by decide) (by decide)
            exact q1 a j _ _ x e1 (pa_4 (bar := no1) ok2 ⟨hr2.1, hr2.2, rfl⟩ hs3) _ f28 (TR_fr h f28 (by rw [ms_eq])) (RMp_fr hR27 (n86 _ _ _))
          · exact q0 1 _ (peS_2 hs x e1 (pa_3 (bar := no1) ok2 ⟨hr2.1, hr2.2, rfl⟩ hs3)) _ (f85 f27 _ (by decide) (by decide)) (by rw [ms_ne2 (by decide)]; exact h27.2.2) (by rw [ms_eq]; rfl)
      · exact q0 1 _ (peS_1 hs x (pa_3 (bar := no1) ok ⟨hr.1, hr.2, rfl⟩ hs2)) _ (f85 f16 _ (by decide) (by decide)) (by rw [ms_ne2 (by decide)]; exact h16.2.2) (by rw [ms_eq]; rfl)
  · have x : B 0 3 = 6 := nI_inj (b := 6) (by omega) (by decide) x
    exact q0 3 i (peS_6 hs x) M29 (by rw [e29]; exact f85 (Fr_rf _ _) _ (by decide) (by decide)) (by rw [e29, ms_ne2 (by decide), h.2.2]) (by rw [e29, ms_eq]; rfl)
theorem R_tie43 {n i f : Nat} {B : NT} {M : Mem} {s1 : Int32} (hL : L ≤ 120) (h : TR M t L i) (hs : i < L) (h2 : t i = 105 ∨ t i = 117) (hf : f = 7 ∨ f = 8) (ef : f = if t i = 105 then 7 else 8) (es : (3402 : Int32) + s1 = nI (3402 + 6 * f)) (x : ¬ B 0 4 = 8) (hG : GB B) (hp0 : 0 < B 0 3) (hR : RMp M B) (q0 : ∀ f p, tiS t L (n + 1) i B = .inl (f, p) → ∀ M1, Fr St9r M M1 → M1 85 12 = nI p → M1 85 13 = nI f → Q 0 M1) (q1 : ∀ a j b k, pa t L (i + 1) 0 (B 0 3 - 1) no1 44 = .inr (a, j) → pa t L j 0 (B 0 3 - 1) (tiB B a) 59 = .inr (b, k) → ∀ M1, Fr St9r M M1 → TR M1 t L k → RMp M1 (adT B f a b) → Q 1 M1) : wJ_X9_readsTie_43 Q M 3402 s1 := by
  have hB := hG.1
  unfold wJ_X9_readsTie_43
  intro v1 ev1 v3 e3 M4 e4
  rw [es] at ev1
  subst ev1
  rw [h.2.2, nI_1] at e3
  have f4 : Fr St9r M M4 := by rw [e4]; exact f85 (Fr_rf _ _) _ (by decide) (by decide)
  have h4 : TR M4 t L (i + 1) := TR_fr h f4 (by rw [e4, ms_eq, e3])
  have hR4 : RMp M4 B := by rw [e4]; exact RMp_fr hR (n86 _ _ _)
  rw [(RMp_s hR4).2.2.1, nI_m (by omega)]
  refine W9_num (lo := 0) h4 hL (by omega) (by decide) (by omega) (fun ok M5 g1 g2 g3 => ⟨fun e => absurd rfl e, fun _ => ?_⟩) (fun ok hr M5 g1 g2 g3 => ⟨fun e => absurd rfl e, fun _ => ?_⟩) (fun ok hr M5 g1 g2 g3 => ⟨fun _ v8 e8 => ?_, fun e => absurd e (by decide)⟩)
  · exact q0 1 _ (tiS_1 hs h2 x (pa_1 ok)) M5 (Fr_tr f4 (St_r g1)) g2 g3
  · exact q0 2 _ (tiS_1 hs h2 x (pa_2 ok (fun e => hr ⟨e.1, e.2.1⟩))) M5 (Fr_tr f4 (St_r g1)) g2 g3
  · have bb := nOk_b ok
    rw [g3] at e8
    subst e8
    have f5 := Fr_tr f4 (St_r g1)
    have h5 := TR_fr h f5 g2
    have hR5 := RMp_fr hR4 (St_86 g1)
    refine W9_sign h5 hL (by omega) (fun hs2 => ⟨fun _ v12 e12 => ?_, fun e => absurd e (by decide)⟩) (fun hs2 => ⟨fun e => absurd rfl e, fun _ => ?_⟩)
    · have e1 := pa_4 (bar := no1) ok ⟨hr.1, hr.2, rfl⟩ hs2
      generalize em : ms M5 85 12 (nI (i + 1 + nsz t L (i + 1) + 1)) = M9 at e12 ⊢
      have f9 : Fr St9r M M9 := by rw [← em]; exact f85 f5 _ (by decide) (by decide)
      have h9 : TR M9 t L (i + 1 + nsz t L (i + 1) + 1) := TR_fr h f9 (by rw [← em, ms_eq])
      have hR9 : RMp M9 B := by rw [← em]; exact RMp_fr hR5 (n86 _ _ _)
      generalize i + 1 + nsz t L (i + 1) + 1 = j at e1 h9
      generalize nvl t L (i + 1) = a at e1 ⊢
      have b1 := pa_r e1
      have ha6 : a < 6 := by omega
      have ka := hG.2.2.2.1 a
      rw [h9.2.2] at e12
      subst e12
      rw [(RMp_s hR9).2.2.1, nI_m (by omega)]
      refine W9_num (lo := 0) h9 hL b1.2.2.2 (by decide) (by omega) (fun ok2 M13 k1 k2 k3 => ⟨fun e => absurd rfl e, fun _ => ?_⟩) (fun ok2 hr2 M13 k1 k2 k3 => ⟨fun e => absurd rfl e, fun _ => ?_⟩) (fun ok2 hr2 M13 k1 k2 k3 => ⟨fun _ v15 e15 => ?_, fun e => absurd e (by decide)⟩)
      · exact q0 1 j (tiS_2 hs h2 x e1 (pa_1 ok2)) M13 (Fr_tr f9 (St_r k1)) k2 k3
      · exact q0 2 j (tiS_2 hs h2 x e1 (pa_2 ok2 (fun e => hr2 ⟨e.1, e.2.1⟩))) M13 (Fr_tr f9 (St_r k1)) k2 k3
      · have bb2 := nOk_b ok2
        have f13 := Fr_tr f9 (St_r k1)
        have hR13 := RMp_fr hR9 (St_86 k1)
        have m7 : mo 7 a = 6 * 7 + a := mo_f (by decide) (by decide)
        have m8 : mo 8 a = 6 * 8 + a := mo_f (by decide) (by decide)
        have l7 : (3444 : Int32) + nI a = nI (3402 + mo 7 a) := l86 (c := 3444) (by decide) (by decide) rfl
        have l8 : (3450 : Int32) + nI a = nI (3402 + mo 8 a) := l86 (c := 3450) (by decide) (by decide) rfl
        rw [l7] at e15
        subst e15
        refine ⟨vp_in_nI (by omega) (by decide), fun v17 e17 => ?_⟩
        rw [l8] at e17
        subst e17
        refine ⟨vp_in_nI (by omega) (by decide), fun v19 e19 => ?_⟩
        have r7 : M13 86 (3402 + mo 7 a) = nI (B 7 a) := (hR13 7 a (df (by decide) ha6)).trans (tw_at (by decide))
        have r8 : M13 86 (3402 + mo 8 a) = nI (B 8 a) := (hR13 8 a (df (by decide) ha6)).trans (tw_at (by decide))
        rw [ix_nat (by omega), ix_nat (by omega), r7, r8, fa_or] at e19
        subst e19
        have hs64 : B 7 a ||| B 8 a < 64 := Nat.or_lt_two_pow (n := 6) ka.2.1 ka.2.2.1
        rw [k3]
        have bad : ∀ M27 : Mem, M27 = ms (ms M13 85 12 (nI j)) 85 13 2 → ¬ tiB B a (nvl t L j) = false → Q 0 M27 := by
          intro M27 e27 y
          refine q0 2 j (tiS_2 hs h2 x e1 (pa_2 ok2 (fun e => y e.2.2))) M27 ?_ ?_ ?_
          · rw [e27]; exact f85 (f85 f13 _ (by decide) (by decide)) _ (by decide) (by decide)
          · rw [e27, ms_ne2 (by decide), ms_eq]
          · rw [e27, ms_eq]; rfl
        refine ⟨fun y M21 e21 M22 e22 => ⟨Or.inl rfl, bad M22 (by rw [e22, e21]) (fun e => (tiB_f.mp e).1 (nI_inj (by omega) (by omega) y))⟩, fun y => ?_⟩
        have y : ¬ nvl t L j = a := fun e => y (by rw [e])
        refine W9_hasN hs64 (by omega) (fun yb => ⟨fun e => absurd e (by decide), fun _ M41 e41 M42 e42 => ⟨Or.inl rfl, bad M42 (by rw [e42, e41]) (fun e => by rw [(tiB_f.mp e).2] at yb; exact absurd yb (by decide))⟩⟩) (fun yb => ⟨fun _ v27 e27 => ?_, fun e => absurd rfl e⟩)
        have hbar : tiB B a (nvl t L j) = false := tiB_f.mpr ⟨y, by
          cases e : (B 7 a ||| B 8 a).testBit (nvl t L j)
          · rfl
          · exact absurd e yb⟩
        have hr3 : 0 ≤ nvl t L j ∧ nvl t L j ≤ B 0 3 - 1 ∧ tiB B a (nvl t L j) = false := ⟨hr2.1, hr2.2, hbar⟩
        have mf : ∀ z, mo f z = 6 * f + z := fun z => mo_f (by omega) (by omega)
        have lf : ∀ z, nI (3402 + 6 * f) + nI z = nI (3402 + mo f z) := fun z => l86 (by omega) (by omega) rfl
        have mfa := mf a
        have mfb := mf (nvl t L j)
        rw [lf] at e27
        subst e27
        have rfa : M13 86 (3402 + mo f a) = nI (B f a) := (hR13 f a (df (by omega) ha6)).trans (tw_at (by omega))
        refine ⟨vp_in_nI (by omega) (by decide), fun v29 e29 => ⟨vp_in_nI (by omega) (by decide), fun M31 e31 v32 e32 => ?_⟩⟩
        rw [ix_nat (by omega), rfa, k3, sh6 _ (by omega), fa_or] at e29
        subst e29
        rw [ix_nat (by omega)] at e31
        have k31 : M31 85 14 = nI (nvl t L j) := by rw [e31, ms_ne (by decide), k3]
        rw [k31, lf] at e32
        subst e32
        have hR31 : RMp M31 (n2 B f a (B f a ||| 2 ^ nvl t L j)) := by rw [e31]; exact RMp_ms hR13 (df (by omega) ha6) (by omega)
        have rfb : M31 86 (3402 + mo f (nvl t L j)) = nI (B f (nvl t L j)) := (hR31 f _ (df (by omega) (by omega))).trans ((tw_at (by omega)).trans (congrArg nI (if_neg (fun e => y e.2))))
        refine ⟨vp_in_nI (by omega) (by decide), fun v34 e34 => ⟨vp_in_nI (by omega) (by decide), fun M36 e36 v37 e37 M38 e38 => ?_⟩⟩
        rw [ix_nat (by omega), rfb, sh6 _ ha6, fa_or] at e34
        subst e34
        rw [ix_nat (by omega)] at e36
        have hR36 : RMp M36 (n2 (n2 B f a (B f a ||| 2 ^ nvl t L j)) f (nvl t L j) (B f (nvl t L j) ||| 2 ^ a)) := by rw [e36]; exact RMp_ms hR31 (df (by omega) (by omega)) (by omega)
        have r36 : M36 86 3407 = nI (B 0 4) := (RMp_s hR36).2.2.2.trans (congrArg nI (by rw [n2_0 (by omega), n2_0 (by omega)]))
        rw [r36, nI_1] at e37
        have hR38 : RMp M38 (adT B f a (nvl t L j)) := by rw [e38, e37]; exact RMp_ms (f := 0) (i := 4) hR36 (d0 (by decide)) (by decide)
        have f38 : Fr St9r M M38 := by rw [e38, e36, e31]; exact f86 (f86 (f86 f13 _ (by omega)) _ (by omega)) _ (by decide)
        have h38 : TR M38 t L (j + nsz t L j) := TR_fr h f38 (by rw [e38, ms_ne (by decide), e36, ms_ne (by decide), e31, ms_ne (by decide), k2])
        refine W9_sign h38 hL (by omega) (fun hs3 => ⟨Or.inr rfl, ?_⟩) (fun hs3 => ⟨Or.inl rfl, ?_⟩)
        · have f39 := f85 f38 (nI (j + nsz t L j + 1)) (j := 12) (by decide) (by decide)
          exact q1 a j _ _ e1 (pa_4 ok2 hr3 hs3) _ f39 (TR_fr h f39 (by rw [ms_eq])) (RMp_fr hR38 (n86 _ _ _))
        · exact q0 1 _ (tiS_2 hs h2 x e1 (pa_3 ok2 hr3 hs3)) _ (f85 f38 _ (by decide) (by decide)) (by rw [ms_ne2 (by decide)]; exact h38.2.2) (by rw [ms_eq]; rfl)
    · exact q0 1 _ (tiS_1 hs h2 x (pa_3 (bar := no1) ok ⟨hr.1, hr.2, rfl⟩ hs2)) _ (f85 f5 _ (by decide) (by decide)) (by rw [ms_ne2 (by decide)]; exact h5.2.2) (by rw [ms_eq]; rfl)
theorem R_tie {n i : Nat} {B : NT} {M : Mem} (hL : L ≤ 120) (h : TR M t L i) (hs : i < L) (h2 : t i = 105 ∨ t i = 117) (hG : GB B) (hp0 : 0 < B 0 3) (hR : RMp M B) (q0 : ∀ f p, tiS t L (n + 1) i B = .inl (f, p) → ∀ M1, Fr St9r M M1 → M1 85 12 = nI p → M1 85 13 = nI f → Q 0 M1) (q1 : ∀ a j b k, ¬ B 0 4 = 8 → pa t L (i + 1) 0 (B 0 3 - 1) no1 44 = .inr (a, j) → pa t L j 0 (B 0 3 - 1) (tiB B a) 59 = .inr (b, k) → ∀ M1, Fr St9r M M1 → TR M1 t L k → RMp M1 (adT B (if t i = 105 then 7 else 8) a b) → Q 1 M1) : w_X9_readsTie M Q := by
  have hB := hG.1
  unfold w_X9_readsTie
  rw [(RMp_s hR).2.2.2]
  refine ⟨fun x v2 e2 => ?_, fun x M29 e29 => ⟨Or.inl rfl, ?_⟩⟩
  · have x : ¬ B 0 4 = 8 := fun e => x (by rw [e]; rfl)
    rw [h.2.2] at e2
    subst e2
    rw [ix_nat (j := i) (by omega), h.2.1 i hs]
    refine ⟨vp_in_nI (by omega) (by decide), fun y => ?_, fun y => ?_⟩
    · rw [if_neg y] at q1
      exact R_tie43 (n := n) (f := 8) hL h hs h2 (Or.inr rfl) (by rw [if_neg y]) (by decide) x hG hp0 hR q0 (fun a j b k => q1 a j b k x)
    · rw [if_pos y] at q1
      exact R_tie43 (n := n) (f := 7) hL h hs h2 (Or.inl rfl) (by rw [if_pos y]) (by decide) x hG hp0 hR q0 (fun a j b k => q1 a j b k x)
  · have x : B 0 4 = 8 := nI_inj (b := 8) (by omega) (by decide) x
    exact q0 3 i (tiS_6 hs h2 x) M29 (by rw [e29]; exact f85 (Fr_rf _ _) _ (by decide) (by decide)) (by rw [e29, ms_ne2 (by decide), h.2.2]) (by rw [e29, ms_eq]; rfl)
end RF2
