/-! the reference reads a TOWN -/
def St9r (k j : Nat) : Prop := (k = 85 ∧ 12 ≤ j ∧ j ≤ 14) ∨ (k = 86 ∧ 3402 ≤ j)
def RMp (M : Mem) (B : NT) : Prop := ∀ f i, dom f i → M 86 (3402 + mo f i) = tw B f i
theorem moi {f i g j : Nat} (h1 : dom g j) (h2 : dom f i) (h : mo g j = mo f i) : g = f ∧ j = i := by
  unfold mo at h
  unfold dom at h1 h2
  (repeat' split at h) <;> omega
theorem RMp_ms {M : Mem} {B : NT} {f i v : Nat} (h : RMp M B) (hd : dom f i) (hf : f ≠ 10) : RMp (ms M 86 (3402 + mo f i) (nI v)) (n2 B f i v) := by
  intro g j hg
  rw [ms_app]
  by_cases e : g = f ∧ j = i
  · obtain ⟨e1, e2⟩ := e
    subst e1 e2
    rw [if_pos ⟨rfl, rfl⟩, tw_at hf]
    unfold n2
    rw [if_pos ⟨rfl, rfl⟩]
  · rw [if_neg (fun z => e (moi hg hd (by omega))), h g j hg]
    unfold tw n2
    rw [if_neg e]
theorem RMp_fr {M M1 : Mem} {B : NT} (h : RMp M B) (hf : ∀ x, M1 86 x = M 86 x) : RMp M1 B := fun f i hd => (hf _).trans (h f i hd)
theorem n86 (M : Mem) (j : Nat) (v : Int32) (x : Nat) : ms M 85 j v 86 x = M 86 x := by rw [ms_ne (by decide)]
theorem St_r {M M1 : Mem} (h : Fr St9 M M1) : Fr St9r M M1 := Fr_mono h (fun _ _ e => Or.inl e)
theorem St_86 {M M1 : Mem} (h : Fr St9 M M1) (x : Nat) : M1 86 x = M 86 x := h 86 x (fun e => by unfold St9 at e; omega)
theorem TR_fr {M M1 : Mem} {t : Nat → Int32} {L i j : Nat} (h : TR M t L i) (hf : Fr St9r M M1) (e : M1 85 12 = nI j) : TR M1 t L j := ⟨(hf 85 7 (fun z => by unfold St9r at z; omega)).trans h.1, fun x hx => (hf 91 x (fun z => by unfold St9r at z; omega)).trans (h.2.1 x hx), e⟩
theorem f85 {M M1 : Mem} {j : Nat} (h : Fr St9r M M1) (v : Int32) (h1 : 12 ≤ j) (h2 : j ≤ 14) : Fr St9r M (ms M1 85 j v) := Fr_ms h v (Or.inl ⟨rfl, h1, h2⟩)
theorem f86 {M M1 : Mem} {j : Nat} (h : Fr St9r M M1) (v : Int32) (h1 : 3402 ≤ j) : Fr St9r M (ms M1 86 j v) := Fr_ms h v (Or.inr ⟨rfl, h1⟩)
theorem d0 {j : Nat} (h : j < 6) : dom 0 j := Or.inl ⟨by decide, h⟩
theorem df {f j : Nat} (hf : f ≤ 8) (h : j < 6) : dom f j := Or.inl ⟨hf, h⟩
theorem RMp_s {M : Mem} {B : NT} (h : RMp M B) : M 86 3402 = nI (B 0 0) ∧ M 86 3404 = nI (B 0 2) ∧ M 86 3405 = nI (B 0 3) ∧ M 86 3407 = nI (B 0 4) := ⟨(h 0 0 (d0 (by decide))).trans (tw_at (by decide)), (h 0 2 (d0 (by decide))).trans (tw_at (by decide)), (h 0 3 (d0 (by decide))).trans (tw_at (by decide)), (h 0 4 (d0 (by decide))).trans (tw_at (by decide))⟩
theorem mo_f {f i : Nat} (h3 : 3 ≤ f) (h8 : f ≤ 8) : mo f i = 6 * f + i := by
  unfold mo
  rw [if_neg (by omega), if_neg (by omega), if_neg (by omega), if_pos (by omega)]
section RF
variable {t : Nat → Int32} {L : Nat} {Q : Int32 → Mem → Prop}
theorem R_law {M : Mem} (hL : L ≤ 120) (h : TR M t L 0) (hR : RMp M Bz) (q0 : ∀ f p, laS t L = .inl (f, p) → ∀ M1, Fr St9r M M1 → M1 85 12 = nI p → M1 85 13 = nI f → Q 0 M1) (q1 : ∀ k B, laS t L = .inr (k, B) → ∀ M1, Fr St9r M M1 → TR M1 t L k → RMp M1 B → Q 1 M1) : w_X9_readsLaw M Q := by
  unfold w_X9_readsLaw
  refine W9_sign h hL (Nat.zero_le _) (fun hs => ⟨fun e => absurd e (by decide), fun _ => ?_⟩) (fun hs => ⟨fun _ => ?_, fun e => absurd rfl e⟩)
  · have f1 : Fr St9r M (ms M 85 12 (nI (0 + 1))) := f85 (Fr_rf _ _) _ (by decide) (by decide)
    have h1 : TR (ms M 85 12 (nI (0 + 1))) t L 1 := TR_fr h f1 (by rw [ms_eq])
    have hR1 : RMp (ms M 85 12 (nI (0 + 1))) Bz := RMp_fr hR (n86 _ _ _)
    refine W9_num (lo := 2) (hi := 6) h1 hL (by omega) (by decide) (by decide) (fun ok M5 g1 g2 g3 => ⟨fun e => absurd rfl e, fun _ => ?_⟩) (fun ok hr M5 g1 g2 g3 => ⟨fun e => absurd rfl e, fun _ => ?_⟩) (fun ok hr M5 g1 g2 g3 => ⟨fun _ v7 e7 M8 e8 => ?_, fun e => absurd e (by decide)⟩)
    · exact q0 1 1 (laS_1 hs (pa_1 ok)) M5 (Fr_tr f1 (St_r g1)) g2 g3
    · exact q0 2 1 (laS_1 hs (pa_2 ok (fun e => hr ⟨e.1, e.2.1⟩))) M5 (Fr_tr f1 (St_r g1)) g2 g3
    · have bb := nOk_b ok
      rw [g3] at e7
      have f8 : Fr St9r M M8 := by rw [e8]; exact f86 (Fr_tr f1 (St_r g1)) _ (by decide)
      have h8 : TR M8 t L (1 + nsz t L 1) := TR_fr h f8 (by rw [e8, ms_ne (by decide), g2])
      have hR8 : RMp M8 (n2 Bz 0 0 (nvl t L 1)) := by rw [e8, e7]; exact RMp_ms (f := 0) (i := 0) (RMp_fr hR1 (St_86 g1)) (d0 (by decide)) (by decide)
      refine W9_sign h8 hL (by omega) (fun hs2 => ⟨fun e => absurd e (by decide), fun _ => ?_⟩) (fun hs2 => ⟨fun _ => ?_, fun e => absurd rfl e⟩)
      · have e1 := pa_4 (bar := no1) ok ⟨hr.1, hr.2, rfl⟩ hs2
        generalize em : ms M8 85 12 (nI (1 + nsz t L 1 + 1)) = M9
        have f9 : Fr St9r M M9 := by rw [← em]; exact f85 f8 _ (by decide) (by decide)
        have h9 : TR M9 t L (1 + nsz t L 1 + 1) := TR_fr h f9 (by rw [← em, ms_eq])
        have hR9 : RMp M9 (n2 Bz 0 0 (nvl t L 1)) := by rw [← em]; exact RMp_fr hR8 (n86 _ _ _)
        generalize 1 + nsz t L 1 + 1 = j at e1 h9
        generalize nvl t L 1 = a at e1 hR9
        have b1 := pa_r e1
        refine W9_num (lo := 0) (hi := 9) h9 hL b1.2.2.2 (by decide) (by decide) (fun ok2 M12 k1 k2 k3 => ⟨fun e => absurd rfl e, fun _ => ?_⟩) (fun ok2 hr2 M12 k1 k2 k3 => ⟨fun e => absurd rfl e, fun _ => ?_⟩) (fun ok2 hr2 M12 k1 k2 k3 => ⟨fun _ v15 e15 M16 e16 => ?_, fun e => absurd e (by decide)⟩)
        · exact q0 1 j (laS_2 hs e1 (pa_1 ok2)) M12 (Fr_tr f9 (St_r k1)) k2 k3
        · exact q0 2 j (laS_2 hs e1 (pa_2 ok2 (fun e => hr2 ⟨e.1, e.2.1⟩))) M12 (Fr_tr f9 (St_r k1)) k2 k3
        · have bb2 := nOk_b ok2
          rw [k3] at e15
          have f16 : Fr St9r M M16 := by rw [e16]; exact f86 (Fr_tr f9 (St_r k1)) _ (by decide)
          have h16 : TR M16 t L (j + nsz t L j) := TR_fr h f16 (by rw [e16, ms_ne (by decide), k2])
          have hR16 : RMp M16 (B0 a (nvl t L j)) := by rw [e16, e15]; exact RMp_ms (f := 0) (i := 1) (RMp_fr hR9 (St_86 k1)) (d0 (by decide)) (by decide)
          refine W9_sign h16 hL (by omega) (fun hs3 => ⟨Or.inr rfl, ?_⟩) (fun hs3 => ⟨Or.inl rfl, ?_⟩)
          · have f17 := f85 f16 (nI (j + nsz t L j + 1)) (j := 12) (by decide) (by decide)
            exact q1 _ _ (laS_3 hs e1 (pa_4 (bar := no1) ok2 ⟨hr2.1, hr2.2, rfl⟩ hs3)) _ f17 (TR_fr h f17 (by rw [ms_eq])) (RMp_fr hR16 (n86 _ _ _))
          · exact q0 1 _ (laS_2 hs e1 (pa_3 (bar := no1) ok2 ⟨hr2.1, hr2.2, rfl⟩ hs3)) _ (f85 f16 _ (by decide) (by decide)) (by rw [ms_ne2 (by decide)]; exact h16.2.2) (by rw [ms_eq]; rfl)
      · exact q0 1 _ (laS_1 hs (pa_3 (bar := no1) ok ⟨hr.1, hr.2, rfl⟩ hs2)) _ (f85 f8 _ (by decide) (by decide)) (by rw [ms_ne2 (by decide)]; exact h8.2.2) (by rw [ms_eq]; rfl)
  · exact q0 1 0 (laS_x hs) _ (f85 (Fr_rf _ _) _ (by decide) (by decide)) (by rw [ms_ne2 (by decide), h.2.2]) (by rw [ms_eq]; rfl)
theorem R_door {n i : Nat} {B : NT} {M : Mem} (hL : L ≤ 120) (h : TR M t L i) (hs : i < L ∧ t i = 100) (hG : GB B) (hR : RMp M B) (q0 : ∀ f p, drS t L (n + 1) i B = .inl (f, p) → ∀ M1, Fr St9r M M1 → M1 85 12 = nI p → M1 85 13 = nI f → Q 0 M1) (q1 : ∀ a j b k, ¬ B 0 2 = 6 → pa t L (i + 1) 0 (B 0 0 - 1) no1 44 = .inr (a, j) → pa t L j 0 (B 0 0 - 1) (fun v => decide (v = a)) 59 = .inr (b, k) → ∀ M1, Fr St9r M M1 → TR M1 t L k → RMp M1 (adD B a b) → Q 1 M1) : w_X9_readsDoor M Q := by
  have hB := hG.1
  unfold w_X9_readsDoor
  rw [(RMp_s hR).2.1]
  intro v1 ev1
  subst ev1
  refine ⟨fun x v3 e3 M4 e4 => ?_, fun x M29 e29 => ⟨Or.inl rfl, ?_⟩⟩
  · have x : ¬ B 0 2 = 6 := fun e => x (by rw [e]; rfl)
    rw [h.2.2, nI_1] at e3
    have f4 : Fr St9r M M4 := by rw [e4]; exact f85 (Fr_rf _ _) _ (by decide) (by decide)
    have h4 : TR M4 t L (i + 1) := TR_fr h f4 (by rw [e4, ms_eq, e3])
    have hR4 : RMp M4 B := by rw [e4]; exact RMp_fr hR (n86 _ _ _)
    rw [(RMp_s hR4).1, nI_m (by omega)]
    refine W9_num (lo := 0) h4 hL (by omega) (by decide) (by omega) (fun ok M5 g1 g2 g3 => ⟨fun e => absurd rfl e, fun _ => ?_⟩) (fun ok hr M5 g1 g2 g3 => ⟨fun e => absurd rfl e, fun _ => ?_⟩) (fun ok hr M5 g1 g2 g3 => ⟨fun _ v8 e8 => ?_, fun e => absurd e (by decide)⟩)
    · exact q0 1 _ (drS_1 hs x (pa_1 ok)) M5 (Fr_tr f4 (St_r g1)) g2 g3
    · exact q0 2 _ (drS_1 hs x (pa_2 ok (fun e => hr ⟨e.1, e.2.1⟩))) M5 (Fr_tr f4 (St_r g1)) g2 g3
    · have bb := nOk_b ok
      rw [g3] at e8
      have f5 := Fr_tr f4 (St_r g1)
      have h5 := TR_fr h f5 g2
      have hR5 := RMp_fr hR4 (St_86 g1)
      refine W9_sign h5 hL (by omega) (fun hs2 => ⟨fun _ v12 e12 => ?_, fun e => absurd e (by decide)⟩) (fun hs2 => ⟨fun e => absurd rfl e, fun _ => ?_⟩)
      · have e1 := pa_4 (bar := no1) ok ⟨hr.1, hr.2, rfl⟩ hs2
        generalize em : ms M5 85 12 (nI (i + 1 + nsz t L (i + 1) + 1)) = M9 at e12 ⊢
        have f9 : Fr St9r M M9 := by rw [← em]; exact f85 f5 _ (by decide) (by decide)
        have h9 : TR M9 t L (i + 1 + nsz t L (i + 1) + 1) := TR_fr h f9 (by rw [← em, ms_eq])
        have hR9 : RMp M9 B := by rw [← em]; exact RMp_fr hR5 (n86 _ _ _)
        generalize i + 1 + nsz t L (i + 1) + 1 = j at e1 h9
        generalize nvl t L (i + 1) = a at e1 e8
        have b1 := pa_r e1
        rw [h9.2.2] at e12
        rw [(RMp_s hR9).1, nI_m (by omega)]
        refine W9_num (lo := 0) h9 hL b1.2.2.2 (by decide) (by omega) (fun ok2 M13 k1 k2 k3 => ⟨fun e => absurd rfl e, fun _ => ?_⟩) (fun ok2 hr2 M13 k1 k2 k3 => ⟨fun e => absurd rfl e, fun _ => ?_⟩) (fun ok2 hr2 M13 k1 k2 k3 => ⟨fun _ => ?_, fun e => absurd e (by decide)⟩)
        · exact q0 1 j (drS_2 hs x e1 (pa_1 ok2)) M13 (Fr_tr f9 (St_r k1)) k2 k3
        · exact q0 2 j (drS_2 hs x e1 (pa_2 ok2 (fun e => hr2 ⟨e.1, e.2.1⟩))) M13 (Fr_tr f9 (St_r k1)) k2 k3
        · have bb2 := nOk_b ok2
          have f13 := Fr_tr f9 (St_r k1)
          have hR13 := RMp_fr hR9 (St_86 k1)
          rw [k3, e8]
          refine ⟨fun y => ?_, fun y M26 e26 M27 e27 => ⟨Or.inl rfl, ?_⟩⟩
          · have y : ¬ nvl t L j = a := fun e => y (by rw [e])
            have hr3 : 0 ≤ nvl t L j ∧ nvl t L j ≤ B 0 0 - 1 ∧ (fun v => decide (v = a)) (nvl t L j) = false := ⟨hr2.1, hr2.2, decide_eq_false y⟩
            have l1 : (3408 : Int32) + 2 * nI (B 0 2) = nI (3402 + mo 1 (B 0 2)) := by
              rw [show (3408 : Int32) = nI 3408 from rfl, show (2 : Int32) = nI 2 from rfl, pk_mul, nI_add]
              exact congrArg nI (by show 3408 + 2 * B 0 2 = 3402 + (6 + 2 * B 0 2); omega)
            have l2 : nI (3402 + mo 1 (B 0 2)) + 1 = nI (3402 + mo 2 (B 0 2)) := by
              rw [nI_1]
              exact congrArg nI (by show 3402 + (6 + 2 * B 0 2) + 1 = 3402 + (7 + 2 * B 0 2); omega)
            have l3 : mo 1 (B 0 2) < 100 ∧ mo 2 (B 0 2) < 100 := ⟨by show 6 + 2 * B 0 2 < 100; omega, by show 7 + 2 * B 0 2 < 100; omega⟩
            rw [l1, l2, ix_nat (by omega), ix_nat (by omega)]
            refine ⟨vp_in_nI (by omega) (by decide), fun M18 e18 v19 e19 => ⟨vp_in_nI (by omega) (by decide), fun M21 e21 v22 e22 M23 e23 => ?_⟩⟩
            rw [e18, ms_ne (by decide), k3] at e19
            have hR18 : RMp M18 (n2 B 1 (B 0 2) a) := by rw [e18]; exact RMp_ms hR13 (df (by decide) (by omega)) (by decide)
            have hR21 : RMp M21 (n2 (n2 B 1 (B 0 2) a) 2 (B 0 2) (nvl t L j)) := by rw [e21, e19]; exact RMp_ms hR18 (df (by decide) (by omega)) (by decide)
            have e0 : M21 86 3404 = nI (B 0 2) := by
              have := (RMp_s hR21).2.1
              rw [this]
              exact congrArg nI (by unfold n2; rw [if_neg (by omega), if_neg (by omega)])
            rw [e0, nI_1] at e22
            have hR23 : RMp M23 (adD B a (nvl t L j)) := by rw [e23, e22]; exact RMp_ms (f := 0) (i := 2) hR21 (d0 (by decide)) (by decide)
            have f23 : Fr St9r M M23 := by rw [e23, e21, e18]; exact f86 (f86 (f86 f13 _ (by omega)) _ (by omega)) _ (by omega)
            have h23 : TR M23 t L (j + nsz t L j) := TR_fr h f23 (by rw [e23, ms_ne (by decide), e21, ms_ne (by decide), e18, ms_ne (by decide), k2])
            refine W9_sign h23 hL (by omega) (fun hs3 => ⟨Or.inr rfl, ?_⟩) (fun hs3 => ⟨Or.inl rfl, ?_⟩)
            · have f24 := f85 f23 (nI (j + nsz t L j + 1)) (j := 12) (by decide) (by decide)
              exact q1 a j _ _ x e1 (pa_4 ok2 hr3 hs3) _ f24 (TR_fr h f24 (by rw [ms_eq])) (RMp_fr hR23 (n86 _ _ _))
            · exact q0 1 _ (drS_2 hs x e1 (pa_3 ok2 hr3 hs3)) _ (f85 f23 _ (by decide) (by decide)) (by rw [ms_ne2 (by decide)]; exact h23.2.2) (by rw [ms_eq]; rfl)
          · have y : nvl t L j = a := nI_inj (by omega) (by omega) y
            refine q0 2 j (drS_2 hs x e1 (pa_2 ok2 (fun e => of_decide_eq_false e.2.2 y))) M27 ?_ ?_ ?_
            · rw [e27, e26]; exact f85 (f85 f13 _ (by decide) (by decide)) _ (by decide) (by decide)
            · rw [e27, ms_ne2 (by decide), e26, ms_eq, e12]
            · rw [e27, ms_eq]; rfl
      · exact q0 1 _ (drS_1 hs x (pa_3 (bar := no1) ok ⟨hr.1, hr.2, rfl⟩ hs2)) _ (f85 f5 _ (by decide) (by decide)) (by rw [ms_ne2 (by decide)]; exact h5.2.2) (by rw [ms_eq]; rfl)
  · have x : B 0 2 = 6 := nI_inj (b := 6) (by omega) (by decide) x
    exact q0 3 i (drS_6 hs x) M29 (by rw [e29]; exact f85 (Fr_rf _ _) _ (by decide) (by decide)) (by rw [e29, ms_ne2 (by decide), h.2.2]) (by rw [e29, ms_eq]; rfl)
end RF
