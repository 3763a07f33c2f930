/-! the class reads a TOWN into its spare one -/
def RCp (M : Mem) (B : NT) : Prop := (∀ j, j < 6 → M 52 j = nI (B 0 j)) ∧ (∀ d, d < B 0 2 → M 53 d = nI (B 1 d) ∧ M 54 d = nI (B 2 d)) ∧ (∀ f p, 3 ≤ f → f ≤ 8 → p < B 0 3 → M (52 + f) p = nI (B f p)) ∧ ∀ p d, p < 6 → d < B 0 2 → M 61 (6 * p + d) = 0 ∧ M 62 (6 * p + d) = -1000000
def S3r (k j : Nat) : Prop := (k = 19 ∧ 2 ≤ j) ∨ (52 ≤ k ∧ k ≤ 62)
def Sb (k _j : Nat) : Prop := 52 ≤ k ∧ k ≤ 62
theorem S3_r {M M1 : Mem} (h : Fr S3 M M1) : Fr S3r M M1 := Fr_mono h (fun _ _ e => Or.inl e)
theorem Sb_r {M M1 : Mem} (h : Fr Sb M M1) : Fr S3r M M1 := Fr_mono h (fun _ _ e => Or.inr e)
theorem RCp_fr {M M1 : Mem} {B : NT} (h : RCp M B) (hf : Fr S3 M M1) : RCp M1 B := by
  have g : ∀ k j, 52 ≤ k → M1 k j = M k j := fun k j hk => hf k j (fun z => by unfold S3 at z; omega)
  refine ⟨fun j hj => by rw [g _ _ (by omega)]; exact h.1 j hj, fun d hd => by rw [g _ _ (by omega), g _ _ (by omega)]; exact h.2.1 d hd, fun f p h3 h8 hp => by rw [g _ _ (by omega)]; exact h.2.2.1 f p h3 h8 hp, fun p d hp hd => by rw [g _ _ (by omega), g _ _ (by omega)]; exact h.2.2.2 p d hp hd⟩
theorem TC_b {M M1 : Mem} {t : Nat → Int32} {L i : Nat} (h : TC M t L i) (hf : Fr Sb M M1) : TC M1 t L i := by
  have g : ∀ k j, k < 52 → M1 k j = M k j := fun k j hk => hf k j (fun z => by unfold Sb at z; omega)
  exact ⟨(g _ _ (by omega)).trans h.1, fun x hx => (g _ _ (by omega)).trans (h.2.1 x hx), (g _ _ (by omega)).trans h.2.2⟩
theorem nI_m {x : Nat} (h : 1 ≤ x) : nI x - 1 = nI (x - 1) := pk_sub (b := 1) h
theorem RC_D {M : Mem} {B : NT} {a b : Nat} (h : RCp M B) (h6 : B 0 2 < 6) : RCp (ms (adM M 52 (B 0 2) (nI a) (nI b) 6) 52 2 (nI (B 0 2 + 1))) (adD B a b) ∧ Fr Sb M (ms (adM M 52 (B 0 2) (nI a) (nI b) 6) 52 2 (nI (B 0 2 + 1))) := by
  obtain ⟨a1, a2, a3, a4, a5⟩ := adD_v B a b
  refine ⟨⟨fun j hj => ?_, fun d hd => ?_, fun f p h3 h8 hp => ?_, fun p d hp hd => ?_⟩, fun k j hn => ?_⟩
  · rw [ms_app]
    by_cases e : j = 2
    · rw [if_pos ⟨rfl, e⟩, e, a1]
    · rw [if_neg (fun z => e z.2), a2 j e]
      unfold adM
      rw [if_neg (by omega), if_neg (by omega), if_neg (by omega), if_neg (by omega)]
      exact h.1 j hj
  · rw [a1] at hd
    rw [ms_ne (by decide), ms_ne (by decide), a3, a4]
    unfold adM
    by_cases e : d = B 0 2
    · rw [if_pos e, if_pos e, if_pos (by omega), if_neg (by omega), if_pos (by omega)]
      exact ⟨rfl, rfl⟩
    · rw [if_neg e, if_neg e, if_neg (by omega), if_neg (by omega), if_neg (by omega), if_neg (by omega), if_neg (by omega), if_neg (by omega), if_neg (by omega), if_neg (by omega)]
      exact h.2.1 d (by omega)
  · rw [a2 3 (by decide)] at hp
    rw [ms_ne (by omega), a5 f p h3]
    unfold adM
    rw [if_neg (by omega), if_neg (by omega), if_neg (by omega), if_neg (by omega)]
    exact h.2.2.1 f p h3 h8 hp
  · rw [a1] at hd
    rw [ms_ne (by decide), ms_ne (by decide)]
    unfold adM
    by_cases e : d = B 0 2
    · rw [if_neg (by omega), if_neg (by omega), if_pos (by omega), if_neg (by omega), if_neg (by omega), if_neg (by omega), if_pos (by omega)]
      exact ⟨rfl, rfl⟩
    · rw [if_neg (by omega), if_neg (by omega), if_neg (by omega), if_neg (by omega), if_neg (by omega), if_neg (by omega), if_neg (by omega), if_neg (by omega)]
      exact h.2.2.2 p d hp (by omega)
  · unfold Sb at hn
    rw [ms_ne (by omega)]
    unfold adM
    rw [if_neg (by omega), if_neg (by omega), if_neg (by omega), if_neg (by omega)]
theorem bar6 : ∀ a, a < 6 → ∀ v, v < 6 → ((((((1 : Int32) <<< (nI a &&& 31)) >>> (nI v &&& 31)) &&& 1) = 0) ↔ decide (v = a) = false) := by decide +kernel
section CL
variable {t : Nat → Int32} {L : Nat} {Q : Int32 → Mem → Prop}
theorem C_law {M : Mem} (hL : L ≤ 120) (h : TC M t L 0) (q0 : ∀ f p, laS t L = .inl (f, p) → ∀ M1, Fr S3r M M1 → M1 19 2 = nI p → M1 19 3 = nI f → Q 0 M1) (q1 : ∀ k B, laS t L = .inr (k, B) → k ≤ L → GB B → B 0 2 = 0 → B 0 3 = 0 → ∀ M1, Fr S3r M M1 → TC M1 t L k → RCp M1 B → Q 1 M1) : w_X3_readLaw 52 M Q := by
  unfold w_X3_readLaw
  refine W3_sign h hL (Nat.zero_le _) (by decide) (fun hs => ⟨fun e => absurd e (by decide), fun _ => ?_⟩) (fun hs => ⟨fun _ => ?_, fun e => absurd rfl e⟩)
  · have f1 : Fr S3 M (ms M 19 2 (nI (0 + 1))) := Fr_ms (Fr_rf _ _) _ ⟨rfl, by decide⟩
    have h1 : TC (ms M 19 2 (nI (0 + 1))) t L 1 := TC_fr h f1 (by rw [ms_eq])
    refine W3_first (lo := 2) (hi := 6) h1 hL (by omega) (by decide) (by decide) (fun f p e1 M4 g1 g2 g3 => ⟨fun _ => ?_, fun e => absurd rfl e⟩) (fun a j e1 M4 g1 g2 g3 => ⟨fun e => absurd e (by decide), fun _ => ?_⟩)
    · exact q0 f p (laS_1 hs e1) M4 (S3_r (Fr_tr f1 g1)) g2 g3
    · have b1 := pa_r e1
      have h4 := TC_fr h1 g1 g2
      refine W3_second (hi := 9) (bar := no1) h4 hL b1.2.2.2 (by decide) (hb0 (by decide)) (fun f p e2 M7 k1 k2 k3 => ⟨fun e => absurd rfl e, fun _ => ?_⟩) (fun b k e2 M7 k1 k2 k3 k4 => ⟨fun _ => ?_, fun e => absurd e (by decide)⟩)
      · exact q0 f p (laS_2 hs e1 e2) M7 (S3_r (Fr_tr (Fr_tr f1 g1) k1)) k2 k3
      · have b2 := pa_r e2
        obtain ⟨v1, v2, v3, v4⟩ := B0_v a b
        rw [k3, g3, k4]
        intro N1 e1' N2 e2' N3 e3' N4 e4' N5 e5' N6 e6'
        have fb : Fr Sb M7 N6 := by
          rw [e6', e5', e4', e3', e2', e1']
          exact Fr_ms (Fr_ms (Fr_ms (Fr_ms (Fr_ms (Fr_ms (Fr_rf _ _) _ ⟨by decide, by decide⟩) _ ⟨by decide, by decide⟩) _ ⟨by decide, by decide⟩) _ ⟨by decide, by decide⟩) _ ⟨by decide, by decide⟩) _ ⟨by decide, by decide⟩
        refine q1 k (B0 a b) (laS_3 hs e1 e2) b2.2.2.2 (GB_0 b1.1 b1.2.1 b2.2.1) (v3 2 (by decide)) (v3 3 (by decide)) N6 (Fr_tr (S3_r (Fr_tr (Fr_tr f1 g1) k1)) (Sb_r fb)) (TC_b (TC_fr h4 k1 k2) fb) ⟨fun j hj => ?_, fun d hd => ?_, fun f p _ _ hp => ?_, fun p d _ hd => ?_⟩
        · rcases (by omega : j = 0 ∨ j = 1 ∨ j = 2 ∨ j = 3 ∨ j = 4 ∨ j = 5) with e | e | e | e | e | e <;> subst e
          · rw [e6', ms_ne2 (by decide), e5', ms_ne2 (by decide), e4', ms_ne2 (by decide), e3', ms_ne2 (by decide), e2', ms_ne2 (by decide), e1', ms_eq, v1]
          · rw [e6', ms_ne2 (by decide), e5', ms_ne2 (by decide), e4', ms_ne2 (by decide), e3', ms_ne2 (by decide), e2', ms_eq, v2]
          · rw [e6', ms_ne2 (by decide), e5', ms_ne2 (by decide), e4', ms_ne2 (by decide), e3', ms_eq, v3 2 (by decide)]; rfl
          · rw [e6', ms_ne2 (by decide), e5', ms_ne2 (by decide), e4', ms_eq, v3 3 (by decide)]; rfl
          · rw [e6', ms_ne2 (by decide), e5', ms_eq, v3 4 (by decide)]; rfl
          · rw [e6', ms_eq, v3 5 (by decide)]; rfl
        · rw [v3 2 (by decide)] at hd; omega
        · rw [v3 3 (by decide)] at hp; omega
        · rw [v3 2 (by decide)] at hd; omega
  · exact q0 1 0 (laS_x hs) _ (S3_r (Fr_ms (Fr_rf _ _) _ ⟨rfl, by decide⟩)) (by rw [ms_ne2 (by decide), h.2.2]) (by rw [ms_eq]; rfl)
theorem C_doors (hL : L ≤ 120) : ∀ (n i : Nat) (B : NT) (M : Mem), TC M t L i → i ≤ L → GB B → RCp M B → 6 < n + B 0 2 → (∀ f p, drS t L n i B = .inl (f, p) → ∀ M1, Fr S3r M M1 → M1 19 2 = nI p → M1 19 3 = nI f → Q 0 M1) → (∀ k B2, drS t L n i B = .inr (k, B2) → ∀ M1, Fr S3r M M1 → TC M1 t L k → RCp M1 B2 → Q 1 M1) → wL_X3_readDoors_19 52 Q n M := by
  intro n
  induction n with
  | zero =>
    intro i B M _ _ hG _ hn _ _
    have := hG.1
    omega
  | succ n ih =>
    intro i B M h hi hG hR hn q0 q1
    have hB := hG.1
    show wB_X3_readDoors_19 52 Q _ M
    unfold wB_X3_readDoors_19
    rw [h.1, h.2.2]
    refine ⟨fun z => ?_, fun z => ?_⟩
    · have z := (nI_leI (by omega) (by omega)).mp z
      exact q1 i B (drS_x (fun e => by omega)) M (Fr_rf _ _) h hR
    · have z : i < L := Nat.lt_of_not_le (fun e => z (nI_le e (by omega)))
      refine W3_byte h hL (by omega) (fun _ => ⟨fun y => ?_, fun y => ?_⟩) (fun e => absurd z e)
      · exact q1 i B (drS_x (fun e => y e.2)) M (Fr_rf _ _) h hR
      · have hs : i < L ∧ t i = 100 := ⟨z, y⟩
        rw [hR.1 2 (by decide)]
        refine ⟨fun x v6 e6 M7 e7 => ?_, fun x M16 e16 => ⟨Or.inl rfl, ?_⟩⟩
        · have x : ¬ B 0 2 = 6 := fun e => x (by rw [e]; rfl)
          rw [h.2.2, nI_1] at e6
          have f7 : Fr S3 M M7 := by rw [e7]; exact Fr_ms (Fr_rf _ _) _ ⟨rfl, by decide⟩
          have h7 : TC M7 t L (i + 1) := TC_fr h f7 (by rw [e7, ms_eq, e6])
          have hR7 := RCp_fr hR f7
          rw [hR7.1 0 (by decide), nI_m (by omega)]
          refine W3_first (lo := 0) h7 hL (by omega) (by decide) (by omega) (fun f p e1 M8 g1 g2 g3 => ⟨fun _ => ?_, fun e => absurd rfl e⟩) (fun a j e1 M8 g1 g2 g3 => ⟨fun e => absurd e (by decide), fun _ => ?_⟩)
          · exact q0 f p (drS_1 hs x e1) M8 (S3_r (Fr_tr f7 g1)) g2 g3
          · have b1 := pa_r e1
            have h8 := TC_fr h7 g1 g2
            have hR8 := RCp_fr hR7 g1
            rw [hR8.1 0 (by decide), nI_m (by omega), g3]
            refine W3_second (bar := fun v => decide (v = a)) h8 hL b1.2.2.2 (by omega) (fun v hv => bar6 a (by omega) v (by omega)) (fun f p e2 M11 k1 k2 k3 => ⟨fun e => absurd rfl e, fun _ => ?_⟩) (fun b k e2 M11 k1 k2 k3 k4 => ⟨fun _ => ?_, fun e => absurd e (by decide)⟩)
            · exact q0 f p (drS_2 hs x e1 e2) M11 (S3_r (Fr_tr (Fr_tr f7 g1) k1)) k2 k3
            · have b2 := pa_r e2
              have hR11 := RCp_fr hR8 k1
              have hne : b ≠ a := of_decide_eq_false b2.2.2.1
              rw [k3, g3, k4]
              refine W6_addDoor (d := B 0 2) (by omega) (hR11.1 2 (by decide)) ?_
              obtain ⟨r1, r2⟩ := RC_D (a := a) (b := b) hR11 (by omega)
              have ff := Fr_tr (S3_r (Fr_tr (Fr_tr f7 g1) k1)) (Sb_r r2)
              refine ih k (adD B a b) _ (TC_b (TC_fr h8 k1 k2) r2) b2.2.2.2 (GB_D hG (by omega) (by omega) (by omega) hne) r1 (by rw [(adD_v B a b).1]; omega) (fun f p e M1 s1 s2 s3 => q0 f p (by rw [drS_3 hs x e1 e2]; exact e) M1 (Fr_tr ff s1) s2 s3) (fun k' B2 e M1 s1 s2 s3 => q1 k' B2 (by rw [drS_3 hs x e1 e2]; exact e) M1 (Fr_tr ff s1) s2 s3)
        · have x : B 0 2 = 6 := nI_inj (b := 6) (by omega) (by decide) x
          exact q0 3 i (drS_6 hs x) M16 (by rw [e16]; exact S3_r (Fr_ms (Fr_rf _ _) _ ⟨rfl, by decide⟩)) (by rw [e16, ms_ne2 (by decide), h.2.2]) (by rw [e16, ms_eq]; rfl)
theorem C_dr {k : Nat} {B : NT} {M : Mem} (hL : L ≤ 120) (h : TC M t L k) (hk : k ≤ L) (hG : GB B) (hR : RCp M B) (h2 : B 0 2 = 0) (q0 : ∀ f p, dr0 t L k B = .inl (f, p) → ∀ M1, Fr S3r M M1 → M1 19 2 = nI p → M1 19 3 = nI f → Q 0 M1) (q1 : ∀ k2 B2, dr0 t L k B = .inr (k2, B2) → ∀ M1, Fr S3r M M1 → TC M1 t L k2 → RCp M1 B2 → Q 1 M1) : w_X3_readDoors 52 M Q := by
  unfold w_X3_readDoors
  rw [h.2.2]
  have bad : ¬ (k < L ∧ t k = 100) → Q 0 (ms M 19 3 1) := fun e => q0 1 k (if_neg e) _ (S3_r (Fr_ms (Fr_rf _ _) _ ⟨rfl, by decide⟩)) (by rw [ms_ne2 (by decide), h.2.2]) (by rw [ms_eq]; rfl)
  refine W3_byte h hL (by omega) (fun z => ⟨fun y => ⟨7, ?_⟩, fun y M5 e5 => ⟨Or.inl rfl, ?_⟩⟩) (fun z => ⟨fun y => absurd y (by decide), fun y M5 e5 => ⟨Or.inl rfl, ?_⟩⟩)
  · have e0 : dr0 t L k B = drS t L 7 k B := if_pos ⟨z, y⟩
    rw [e0] at q0 q1
    exact C_doors hL 7 k B M h hk hG hR (by omega) q0 q1
  · rw [e5]; exact bad (fun e => y e.2)
  · rw [e5]; exact bad (fun e => z e.1)
end CL
