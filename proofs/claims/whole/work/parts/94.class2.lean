theorem W3_kind {M : Mem} {x : Int32} {Q : Int32 → Mem → Prop} (q1 : kL x ≠ 0 → Q (nI (kL x)) M) (q0 : kL x = 0 → Q (-1000000) M) : w_X3_kindOf M x Q := by
  unfold w_X3_kindOf
  refine ⟨fun e => ?_, fun e => ?_, fun e => ?_, fun e => ?_, fun e => ?_, fun e => ?_, fun e => ?_, fun e => ?_, fun e => ?_, fun e => ?_, fun e => ?_, fun e => ?_, fun e => ?_, fun e => ?_, fun e2 _ _ _ _ e7 _ _ e10 _ e12 _ _ e15 => ?_⟩
  · subst e; exact q1 (by decide)
  · subst e; exact q0 (by decide)
  · subst e; exact q0 (by decide)
  · subst e; exact q0 (by decide)
  · subst e; exact q0 (by decide)
  · subst e; exact q1 (by decide)
  · subst e; exact q0 (by decide)
  · subst e; exact q0 (by decide)
  · subst e; exact q1 (by decide)
  · subst e; exact q0 (by decide)
  · subst e; exact q1 (by decide)
  · subst e; exact q0 (by decide)
  · subst e; exact q0 (by decide)
  · subst e; exact q1 (by decide)
  · refine q0 ?_
    unfold kL
    rw [if_neg e12, if_neg e2, if_neg e15, if_neg e7, if_neg e10]
theorem kL_5 (x : Int32) : kL x ≤ 5 := by
  unfold kL
  (repeat' split) <;> omega
theorem W6_addP {M : Mem} {n : Nat} {x y z : Int32} {Q : Mem → Prop} (hn : n < 6) (h3 : M 52 3 = nI n) (q : Q (ms (ms (ms (ms (ms (ms (ms M 55 n x) 56 n y) 57 n z) 58 n 0) 59 n 0) 60 n 0) 52 3 (nI (n + 1)))) : w_X6_addPerson 52 M x y z Q := by
  have hin : vp_in (nI n) 6 := vp_in_nI hn (by decide)
  unfold w_X6_addPerson
  rw [h3, ix_nat (by omega)]
  refine ⟨hin, fun M2 e2 => ?_⟩
  have k2 : M2 52 3 = nI n := by rw [e2, ms_ne (by decide), h3]
  rw [k2, ix_nat (by omega)]
  refine ⟨hin, fun M4 e4 => ?_⟩
  have k4 : M4 52 3 = nI n := by rw [e4, ms_ne (by decide), k2]
  rw [k4, ix_nat (by omega)]
  refine ⟨hin, fun M6 e6 => ?_⟩
  have k6 : M6 52 3 = nI n := by rw [e6, ms_ne (by decide), k4]
  rw [k6, ix_nat (by omega)]
  refine ⟨hin, fun M8 e8 => ?_⟩
  have k8 : M8 52 3 = nI n := by rw [e8, ms_ne (by decide), k6]
  rw [k8, ix_nat (by omega)]
  refine ⟨hin, fun M10 e10 => ?_⟩
  have k10 : M10 52 3 = nI n := by rw [e10, ms_ne (by decide), k8]
  rw [k10, ix_nat (by omega)]
  refine ⟨hin, fun M12 e12 v13 e13 M14 e14 => ?_⟩
  rw [e12, ms_ne (by decide), k10, nI_1] at e13
  rw [e14, e13, e12, e10, e8, e6, e4, e2]
  exact q
theorem RC_P {M : Mem} {B : NT} {k r b : Nat} (h : RCp M B) (hG : GB B) (h6 : B 0 3 < 6) : RCp (ms (ms (ms (ms (ms (ms (ms M 55 (B 0 3) (nI k)) 56 (B 0 3) (nI r)) 57 (B 0 3) (nI b)) 58 (B 0 3) 0) 59 (B 0 3) 0) 60 (B 0 3) 0) 52 3 (nI (B 0 3 + 1))) (adP B k r b) ∧ Fr Sb M (ms (ms (ms (ms (ms (ms (ms M 55 (B 0 3) (nI k)) 56 (B 0 3) (nI r)) 57 (B 0 3) (nI b)) 58 (B 0 3) 0) 59 (B 0 3) 0) 60 (B 0 3) 0) 52 3 (nI (B 0 3 + 1))) := by
  obtain ⟨a1, a2, a3, a4, a5, a6⟩ := adP_v B k r b
  generalize em : ms (ms (ms (ms (ms (ms (ms M 55 (B 0 3) (nI k)) 56 (B 0 3) (nI r)) 57 (B 0 3) (nI b)) 58 (B 0 3) 0) 59 (B 0 3) 0) 60 (B 0 3) 0) 52 3 (nI (B 0 3 + 1)) = M2
  have ap : ∀ u w, M2 u w = if u = 52 ∧ w = 3 then nI (B 0 3 + 1) else if u = 60 ∧ w = B 0 3 then 0 else if u = 59 ∧ w = B 0 3 then 0 else if u = 58 ∧ w = B 0 3 then 0 else if u = 57 ∧ w = B 0 3 then nI b else if u = 56 ∧ w = B 0 3 then nI r else if u = 55 ∧ w = B 0 3 then nI k else M u w := by
    intro u w
    rw [← em, ms_app, ms_app, ms_app, ms_app, ms_app, ms_app, ms_app]
  refine ⟨⟨fun j hj => ?_, fun d hd => ?_, fun f p h3 h8 hp => ?_, fun p d hp hd => ?_⟩, fun u w hn => ?_⟩
  · rw [ap]
    by_cases e : j = 3
    · rw [if_pos ⟨rfl, e⟩, e, a1]
    · rw [if_neg (fun z => e z.2), a2 j e, if_neg (by omega), if_neg (by omega), if_neg (by omega), if_neg (by omega), if_neg (by omega), if_neg (by omega)]
      exact h.1 j hj
  · rw [a2 2 (by decide)] at hd
    rw [a6 _ _ (by decide) (by decide), a6 _ _ (by decide) (by decide), ap, ap, if_neg (by omega), if_neg (by omega), if_neg (by omega), if_neg (by omega), if_neg (by omega), if_neg (by omega), if_neg (by omega), if_neg (by omega), if_neg (by omega), if_neg (by omega), if_neg (by omega), if_neg (by omega), if_neg (by omega), if_neg (by omega)]
    exact h.2.1 d hd
  · rw [a1] at hp
    rw [ap]
    have hq := hG.2.2.2.1 p
    by_cases e : p = B 0 3
    · have z := hq.2.2.2 (by omega)
      rcases (by omega : f = 3 ∨ f = 4 ∨ f = 5 ∨ f = 6 ∨ f = 7 ∨ f = 8) with ef | ef | ef | ef | ef | ef <;> subst ef
      · rw [a3, if_pos e, if_neg (by omega), if_neg (by omega), if_neg (by omega), if_neg (by omega), if_neg (by omega), if_neg (by omega), if_pos (by omega)]
      · rw [a4, if_pos e, if_neg (by omega), if_neg (by omega), if_neg (by omega), if_neg (by omega), if_neg (by omega), if_pos (by omega)]
      · rw [a5, if_pos e, if_neg (by omega), if_neg (by omega), if_neg (by omega), if_neg (by omega), if_pos (by omega)]
      · rw [a6 _ _ (by decide) (by decide), hq.1, if_neg (by omega), if_neg (by omega), if_neg (by omega), if_pos (by omega)]; rfl
      · rw [a6 _ _ (by decide) (by decide), z.1, if_neg (by omega), if_neg (by omega), if_pos (by omega)]; rfl
      · rw [a6 _ _ (by decide) (by decide), z.2, if_neg (by omega), if_pos (by omega)]; rfl
    · rw [if_neg (by omega), if_neg (by omega), if_neg (by omega), if_neg (by omega), if_neg (by omega), if_neg (by omega), if_neg (by omega), h.2.2.1 f p h3 h8 (by omega)]
      rcases (by omega : f = 3 ∨ f = 4 ∨ f = 5 ∨ f = 6 ∨ f = 7 ∨ f = 8) with ef | ef | ef | ef | ef | ef <;> subst ef
      · rw [a3, if_neg e]
      · rw [a4, if_neg e]
      · rw [a5, if_neg e]
      · rw [a6 _ _ (by decide) (by decide)]
      · rw [a6 _ _ (by decide) (by decide)]
      · rw [a6 _ _ (by decide) (by decide)]
  · rw [a2 2 (by decide)] at hd
    rw [ap, ap, if_neg (by omega), if_neg (by omega), if_neg (by omega), if_neg (by omega), if_neg (by omega), if_neg (by omega), if_neg (by omega), if_neg (by omega), if_neg (by omega), if_neg (by omega), if_neg (by omega), if_neg (by omega), if_neg (by omega), if_neg (by omega)]
    exact h.2.2.2 p d hp hd
  · unfold Sb at hn
    rw [ap, if_neg (by omega), if_neg (by omega), if_neg (by omega), if_neg (by omega), if_neg (by omega), if_neg (by omega), if_neg (by omega)]
theorem sh6 : ∀ a, a < 6 → (1 : Int32) <<< (nI a &&& 31) = nI (2 ^ a) := by decide +kernel
theorem W6_addT {M : Mem} {f a b x y n : Nat} {Q : Mem → Prop} (hf : f = 7 ∨ f = 8) (ha : a < 6) (hb : b < 6) (hab : b ≠ a) (hx : M (52 + f) a = nI x) (hy : M (52 + f) b = nI y) (h4 : M 52 4 = nI n) (q : Q (ms (ms (ms M (52 + f) a (nI (x ||| 2 ^ b))) (52 + f) b (nI (y ||| 2 ^ a))) 52 4 (nI (n + 1)))) : w_X6_addTie 52 (52 + f) M (nI a) (nI b) Q := by
  have hl : ln (52 + f) = 6 := by rcases hf with e | e <;> subst e <;> rfl
  unfold w_X6_addTie
  rw [hl, ix_nat (by omega), ix_nat (by omega), hx, sh6 b hb, sh6 a ha, fa_or]
  refine ⟨vp_in_nI ha (by decide), fun v2 e2 => ⟨vp_in_nI ha (by decide), fun M4 e4 => ⟨vp_in_nI hb (by decide), ?_⟩⟩⟩
  rw [e4, ms_ne2 hab, hy, fa_or]
  intro v6 e6
  refine ⟨vp_in_nI hb (by decide), fun M8 e8 v9 e9 M10 e10 => ?_⟩
  have k8 : M8 52 4 = nI n := by rw [e8, ms_ne (by omega), ms_ne (by omega), h4]
  rw [k8, nI_1] at e9
  rw [e10, e9, e8, e6, e2]
  exact q
theorem RC_T {M : Mem} {B : NT} {f a b : Nat} (h : RCp M B) (hf : f = 7 ∨ f = 8) (hab : b ≠ a) : RCp (ms (ms (ms M (52 + f) a (nI (B f a ||| 2 ^ b))) (52 + f) b (nI (B f b ||| 2 ^ a))) 52 4 (nI (B 0 4 + 1))) (adT B f a b) ∧ Fr Sb M (ms (ms (ms M (52 + f) a (nI (B f a ||| 2 ^ b))) (52 + f) b (nI (B f b ||| 2 ^ a))) 52 4 (nI (B 0 4 + 1))) := by
  obtain ⟨a1, a2, a3, a4⟩ := adT_v B (f := f) (a := a) (b := b) (by omega)
  generalize em : ms (ms (ms M (52 + f) a (nI (B f a ||| 2 ^ b))) (52 + f) b (nI (B f b ||| 2 ^ a))) 52 4 (nI (B 0 4 + 1)) = M2
  have ap : ∀ u w, M2 u w = if u = 52 ∧ w = 4 then nI (B 0 4 + 1) else if u = 52 + f ∧ w = b then nI (B f b ||| 2 ^ a) else if u = 52 + f ∧ w = a then nI (B f a ||| 2 ^ b) else M u w := by
    intro u w
    rw [← em, ms_app, ms_app, ms_app]
  refine ⟨⟨fun j hj => ?_, fun d hd => ?_, fun g p h3 h8 hp => ?_, fun p d hp hd => ?_⟩, fun u w hn => ?_⟩
  · rw [ap]
    by_cases e : j = 4
    · rw [if_pos ⟨rfl, e⟩, e, a1]
    · rw [if_neg (fun z => e z.2), a2 j e, if_neg (by omega), if_neg (by omega)]
      exact h.1 j hj
  · rw [a2 2 (by decide)] at hd
    rw [a4 _ _ (by decide) (by omega), a4 _ _ (by decide) (by omega), ap, ap, if_neg (by omega), if_neg (by omega), if_neg (by omega), if_neg (by omega), if_neg (by omega), if_neg (by omega)]
    exact h.2.1 d hd
  · rw [a2 3 (by decide)] at hp
    rw [ap, if_neg (by omega)]
    by_cases eg : g = f
    · subst eg
      rw [a3]
      by_cases e1 : p = b
      · rw [if_pos ⟨rfl, e1⟩, if_pos e1]
      · rw [if_neg (fun z => e1 z.2), if_neg e1]
        by_cases e2 : p = a
        · rw [if_pos ⟨rfl, e2⟩, if_pos e2]
        · rw [if_neg (fun z => e2 z.2), if_neg e2]
          exact h.2.2.1 g p h3 h8 hp
    · rw [if_neg (by omega), if_neg (by omega), a4 _ _ (by omega) eg]
      exact h.2.2.1 g p h3 h8 hp
  · rw [a2 2 (by decide)] at hd
    rw [ap, ap, if_neg (by omega), if_neg (by omega), if_neg (by omega), if_neg (by omega), if_neg (by omega), if_neg (by omega)]
    exact h.2.2.2 p d hp hd
  · unfold Sb at hn
    rw [ap, if_neg (by omega), if_neg (by omega), if_neg (by omega)]
theorem tiB_f {B : NT} {a b : Nat} : tiB B a b = false ↔ b ≠ a ∧ (B 7 a ||| B 8 a).testBit b = false := by
  unfold tiB
  rw [Nat.or_comm, fb_bit_set, Bool.or_eq_false_iff]
  exact ⟨fun e => ⟨of_decide_eq_false e.2, e.1⟩, fun e => ⟨e.2, decide_eq_false e.1⟩⟩
section CL2
variable {t : Nat → Int32} {L : Nat} {Q : Int32 → Mem → Prop}
theorem C_people (hL : L ≤ 120) : ∀ (n i : Nat) (B : NT) (M : Mem), TC M t L i → i ≤ L → GB B → RCp M B → 6 < n + B 0 3 → (∀ f p, peS t L n i B = .inl (f, p) → ∀ M1, Fr S3r M M1 → M1 19 2 = nI p → M1 19 3 = nI f → Q 0 M1) → (∀ k B2, peS t L n i B = .inr (k, B2) → ∀ M1, Fr S3r M M1 → TC M1 t L k → RCp M1 B2 → Q 1 M1) → wL_X3_readPeople_22 52 Q n M := by
  intro n
  induction n with
  | zero =>
    intro i B M _ _ hG _ hn _ _
    have := hG.1
    omega
  | succ n ih =>
    intro i B M h hi hG hR hn q0 q1
    have hB := hG.1
    show wB_X3_readPeople_22 52 Q _ M
    unfold wB_X3_readPeople_22
    rw [h.1, h.2.2]
    refine ⟨fun z => ?_, fun z => ?_⟩
    · have z := (nI_leI (by omega) (by omega)).mp z
      exact q1 i B (peS_x (fun e => by omega)) M (Fr_rf _ _) h hR
    · have z : i < L := Nat.lt_of_not_le (fun e => z (nI_le e (by omega)))
      refine W3_byte h hL (by omega) (fun _ => ?_) (fun e => absurd z e)
      have k5 := kL_5 (t i)
      refine W3_kind (fun y => ⟨fun e => absurd e (nI_ng (by omega)), fun _ => ?_⟩) (fun y => ⟨fun _ => ?_, fun e => absurd rfl e⟩)
      · have hs : i < L ∧ kL (t i) ≠ 0 := ⟨z, y⟩
        rw [hR.1 3 (by decide)]
        refine ⟨fun x => ?_, fun x M16 e16 => ⟨Or.inl rfl, ?_⟩⟩
        · have x : ¬ B 0 3 = 6 := fun e => x (by rw [e]; rfl)
          rw [h.2.2]
          refine W3_byte h hL (by omega) (fun _ => ?_) (fun e => absurd z e)
          refine W3_kind (fun _ v6 e6 M7 e7 => ?_) (fun e => absurd e y)
          rw [h.2.2, nI_1] at e6
          have f7 : Fr S3 M M7 := by rw [e7]; exact Fr_ms (Fr_rf _ _) _ ⟨rfl, by decide⟩
          have h7 : TC M7 t L (i + 1) := TC_fr h f7 (by rw [e7, ms_eq, e6])
          have hR7 := RCp_fr hR f7
          rw [hR7.1 0 (by decide), nI_m (by omega)]
          refine W3_first (lo := 0) h7 hL (by omega) (by decide) (by omega) (fun f p e1 M8 g1 g2 g3 => ⟨fun _ => ?_, fun e => absurd rfl e⟩) (fun a j e1 M8 g1 g2 g3 => ⟨fun e => absurd e (by decide), fun _ => ?_⟩)
          · exact q0 f p (peS_1 hs x e1) M8 (S3_r (Fr_tr f7 g1)) g2 g3
          · have b1 := pa_r e1
            have h8 := TC_fr h7 g1 g2
            have hR8 := RCp_fr hR7 g1
            refine W3_second (hi := 6) (bar := no1) h8 hL b1.2.2.2 (by omega) (hb0 (by decide)) (fun f p e2 M11 k1 k2 k3 => ⟨fun e => absurd rfl e, fun _ => ?_⟩) (fun b k e2 M11 k1 k2 k3 k4 => ⟨fun _ => ?_, fun e => absurd e (by decide)⟩)
            · exact q0 f p (peS_2 hs x e1 e2) M11 (S3_r (Fr_tr (Fr_tr f7 g1) k1)) k2 k3
            · have b2 := pa_r e2
              have hR11 := RCp_fr hR8 k1
              rw [k3, g3, k4]
              refine W6_addP (n := B 0 3) (by omega) (hR11.1 3 (by decide)) ?_
              obtain ⟨r1, r2⟩ := RC_P (k := kL (t i)) (r := a) (b := b) hR11 hG (by omega)
              have ff := Fr_tr (S3_r (Fr_tr (Fr_tr f7 g1) k1)) (Sb_r r2)
              refine ih k (adP B (kL (t i)) a b) _ (TC_b (TC_fr h8 k1 k2) r2) b2.2.2.2 (GB_P hG (by omega) (by omega) k5 (by omega) b2.2.1) r1 (by rw [(adP_v B _ a b).1]; omega) (fun f p e M1 s1 s2 s3 => q0 f p (by rw [peS_3 hs x e1 e2]; exact e) M1 (Fr_tr ff s1) s2 s3) (fun k' B2 e M1 s1 s2 s3 => q1 k' B2 (by rw [peS_3 hs x e1 e2]; exact e) M1 (Fr_tr ff s1) s2 s3)
        · have x : B 0 3 = 6 := nI_inj (b := 6) (by omega) (by decide) x
          exact q0 3 i (peS_6 hs x) M16 (by rw [e16]; exact S3_r (Fr_ms (Fr_rf _ _) _ ⟨rfl, by decide⟩)) (by rw [e16, ms_ne2 (by decide), h.2.2]) (by rw [e16, ms_eq]; rfl)
      · exact q1 i B (peS_x (fun e => e.2 y)) M (Fr_rf _ _) h hR
theorem C_pe {k : Nat} {B : NT} {M : Mem} (hL : L ≤ 120) (h : TC M t L k) (hk : k ≤ L) (hG : GB B) (hR : RCp M B) (h2 : B 0 3 = 0) (q0 : ∀ f p, pe0 t L k B = .inl (f, p) → ∀ M1, Fr S3r M M1 → M1 19 2 = nI p → M1 19 3 = nI f → Q 0 M1) (q1 : ∀ k2 B2, pe0 t L k B = .inr (k2, B2) → ∀ M1, Fr S3r M M1 → TC M1 t L k2 → RCp M1 B2 → Q 1 M1) : w_X3_readPeople 52 M Q := by
  unfold w_X3_readPeople
  rw [h.2.2]
  have bad : ¬ (k < L ∧ kL (t k) ≠ 0) → Q 0 (ms M 19 3 1) := fun e => q0 1 k (if_neg e) _ (S3_r (Fr_ms (Fr_rf _ _) _ ⟨rfl, by decide⟩)) (by rw [ms_ne2 (by decide), h.2.2]) (by rw [ms_eq]; rfl)
  refine W3_byte h hL (by omega) (fun z => ?_) (fun z => ?_)
  · have k5 := kL_5 (t k)
    refine W3_kind (fun y => ⟨fun _ => ⟨7, ?_⟩, fun e => absurd e (nI_ng (by omega))⟩) (fun y => ⟨fun e => absurd rfl e, fun _ M5 e5 => ⟨Or.inl rfl, ?_⟩⟩)
    · have e0 : pe0 t L k B = peS t L 7 k B := if_pos ⟨z, y⟩
      rw [e0] at q0 q1
      exact C_people hL 7 k B M h hk hG hR (by omega) q0 q1
    · rw [e5]; exact bad (fun e => e.2 y)
  · refine W3_kind (fun y => absurd (by decide) y) (fun y => ⟨fun e => absurd rfl e, fun _ M5 e5 => ⟨Or.inl rfl, ?_⟩⟩)
    rw [e5]; exact bad (fun e => z e.1)
theorem C_ties (hL : L ≤ 120) : ∀ (n i : Nat) (B : NT) (M : Mem), TC M t L i → i ≤ L → GB B → 0 < B 0 3 → RCp M B → 8 < n + B 0 4 → (∀ f p, tiS t L n i B = .inl (f, p) → ∀ M1, Fr S3r M M1 → M1 19 2 = nI p → M1 19 3 = nI f → Q 0 M1) → (∀ k B2, tiS t L n i B = .inr (k, B2) → ∀ M1, Fr S3r M M1 → TC M1 t L k → RCp M1 B2 → Q 1 M1) → wL_X3_readTies_0 52 Q n M := by
  intro n
  induction n with
  | zero =>
    intro i B M _ _ hG _ _ hn _ _
    have := hG.1
    omega
  | succ n ih =>
    intro i B M h hi hG hp0 hR hn q0 q1
    have hB := hG.1
    have bad : ∀ v, tiS t L (n + 1) i B = .inl (v, i) → Q 0 (ms M 19 3 (nI v)) := fun v e => q0 v i e _ (S3_r (Fr_ms (Fr_rf _ _) _ ⟨rfl, by decide⟩)) (by rw [ms_ne2 (by decide), h.2.2]) (by rw [ms_eq])
    have go : (hz : i < L) → (h2 : t i = 105 ∨ t i = 117) → wJ_X3_readTies_38 52 Q (wL_X3_readTies_0 52 Q n) M (t i) := by
      intro hz h2
      unfold wJ_X3_readTies_38
      rw [hR.1 4 (by decide)]
      refine ⟨fun x v6 e6 M7 e7 => ?_, fun x M16 e16 => ⟨Or.inl rfl, ?_⟩⟩
      · have x : ¬ B 0 4 = 8 := fun e => x (by rw [e]; rfl)
        rw [h.2.2, nI_1] at e6
        have f7 : Fr S3 M M7 := by rw [e7]; exact Fr_ms (Fr_rf _ _) _ ⟨rfl, by decide⟩
        have h7 : TC M7 t L (i + 1) := TC_fr h f7 (by rw [e7, ms_eq, e6])
        have hR7 := RCp_fr hR f7
        rw [hR7.1 3 (by decide), nI_m (by omega)]
        refine W3_first (lo := 0) h7 hL (by omega) (by decide) (by omega) (fun f p e1 M8 g1 g2 g3 => ⟨fun _ => ?_, fun e => absurd rfl e⟩) (fun a j e1 M8 g1 g2 g3 => ⟨fun e => absurd e (by decide), fun _ => ?_⟩)
        · exact q0 f p (tiS_1 hz h2 x e1) M8 (S3_r (Fr_tr f7 g1)) g2 g3
        · have b1 := pa_r e1
          have h8 := TC_fr h7 g1 g2
          have hR8 := RCp_fr hR7 g1
          have ka := hG.2.2.2.1 a
          rw [hR8.1 3 (by decide), nI_m (by omega), g3]
          unfold w_X6_tiedTo
          rw [ix_nat (by omega), hR8.2.2.1 7 a (by decide) (by decide) (by omega), hR8.2.2.1 8 a (by decide) (by decide) (by omega), sh6 a (by omega), fa_or]
          refine ⟨vp_in_nI (by omega) (by decide), vp_in_nI (by omega) (by decide), ?_⟩
          show w_X3_readSecond M8 (nI (B 0 3 - 1)) (nI (2 ^ a) ||| nI (B 7 a ||| B 8 a)) _
          rw [fa_or]
          have hs64 : 2 ^ a ||| (B 7 a ||| B 8 a) < 64 := Nat.or_lt_two_pow (n := 6) (Nat.pow_lt_pow_right (by decide) (by omega)) (Nat.or_lt_two_pow (n := 6) ka.2.1 ka.2.2.1)
          refine W3_second (bar := tiB B a) h8 hL b1.2.2.2 (by omega) (fun v hv => bit6 _ hs64 v (by omega)) (fun f p e2 M11 k1 k2 k3 => ⟨fun e => absurd rfl e, fun _ => ?_⟩) (fun b k e2 M11 k1 k2 k3 k4 => ⟨fun _ => ?_, fun e => absurd e (by decide)⟩)
          · exact q0 f p (tiS_2 hz h2 x e1 e2) M11 (S3_r (Fr_tr (Fr_tr f7 g1) k1)) k2 k3
          · have b2 := pa_r e2
            have hR11 := RCp_fr hR8 k1
            have hne := (tiB_f.mp b2.2.2.1).1
            have fin : ∀ f, (f = 7 ∨ f = 8) → f = (if t i = 105 then 7 else 8) → w_X6_addTie 52 (52 + f) M11 (M11 19 4) (M11 19 5) (fun M13 => wL_X3_readTies_0 52 Q n M13) := by
              intro f hf ef
              rw [k3, g3, k4]
              refine W6_addT hf (by omega) (by omega) hne (hR11.2.2.1 f a (by omega) (by omega) (by omega)) (hR11.2.2.1 f b (by omega) (by omega) (by omega)) (hR11.1 4 (by decide)) ?_
              obtain ⟨r1, r2⟩ := RC_T (f := f) (a := a) (b := b) hR11 hf hne
              have ff := Fr_tr (S3_r (Fr_tr (Fr_tr f7 g1) k1)) (Sb_r r2)
              have ev := adT_v B (f := f) (a := a) (b := b) (by omega)
              refine ih k (adT B f a b) _ (TC_b (TC_fr h8 k1 k2) r2) b2.2.2.2 (GB_T hG (by omega) hf (by omega) (by omega)) (by rw [ev.2.1 3 (by decide)]; exact hp0) r1 (by rw [ev.1]; omega) (fun f' p e M1 s1 s2 s3 => q0 f' p (by rw [tiS_3 hz h2 x e1 e2, ← ef]; exact e) M1 (Fr_tr ff s1) s2 s3) (fun k' B2 e M1 s1 s2 s3 => q1 k' B2 (by rw [tiS_3 hz h2 x e1 e2, ← ef]; exact e) M1 (Fr_tr ff s1) s2 s3)
            exact ⟨fun y => fin 8 (Or.inr rfl) (by rw [if_neg y]), fun y => fin 7 (Or.inl rfl) (by rw [if_pos y])⟩
      · have x : B 0 4 = 8 := nI_inj (b := 8) (by omega) (by decide) x
        rw [e16]; exact bad 3 (tiS_6 hz h2 x)
    show wB_X3_readTies_0 52 Q _ M
    unfold wB_X3_readTies_0
    rw [h.1, h.2.2]
    refine ⟨fun z => ?_, fun z => ?_⟩
    · have z := (nI_leI (by omega) (by omega)).mp z
      exact q1 i B (tiS_x (by omega)) M (Fr_rf _ _) h hR
    · have z : i < L := Nat.lt_of_not_le (fun e => z (nI_le e (by omega)))
      refine W3_byte h hL (by omega) (fun _ => ⟨fun y => go z (Or.inl y), fun y => ⟨fun y2 => go z (Or.inr y2), fun y2 M6 e6 => ⟨Or.inl rfl, ?_⟩⟩⟩) (fun e => absurd z e)
      rw [e6]; exact bad 1 (tiS_0 z (fun e => e.elim y y2))
end CL2
