section DEAD
variable {Q : Int32 → Mem → Prop} {M : Mem} {n : Nat}
theorem dd190 (q : Q 0 M) : wJ_X9_reads_190 Q M 0 := by
  unfold wJ_X9_reads_190
  exact ⟨fun _ => q, fun e => absurd rfl e⟩
theorem dd160 (q : Q 0 M) : wL_X9_reads_160 Q (n + 1) M 0 := by
  show wB_X9_reads_160 Q _ M 0
  unfold wB_X9_reads_160
  exact ⟨fun _ => dd190 q, fun e => absurd rfl e⟩
theorem dd122 (q : Q 0 M) : wL_X9_reads_122 Q (n + 1) M 0 := by
  show wB_X9_reads_122 Q _ M 0
  unfold wB_X9_reads_122
  exact ⟨fun _ => ⟨1, dd160 q⟩, fun e => absurd rfl e⟩
theorem dd86 (q : Q 0 M) : wJ_X9_reads_86 Q M 0 := by
  unfold wJ_X9_reads_86
  exact ⟨fun _ => ⟨1, dd122 q⟩, fun e => absurd rfl e⟩
theorem dd65 (q : Q 0 M) : wL_X9_reads_65 Q (n + 1) M 0 := by
  show wB_X9_reads_65 Q _ M 0
  unfold wB_X9_reads_65
  exact ⟨fun _ => dd86 q, fun e => absurd rfl e⟩
end DEAD
section RLP
variable {t : Nat → Int32} {L : Nat} {Q : Int32 → Mem → Prop}
theorem R_ties (hL : L ≤ 120) : ∀ (n i : Nat) (B : NT) (M : Mem), TR M t L i → i ≤ L → GB B → 0 < B 0 3 → RMp M B → 8 < n + B 0 4 → (∀ f p, tiS t L n i B = .inl (f, p) → ∀ M1, Fr St9r M M1 → M1 85 12 = nI p → M1 85 13 = nI f → Q 0 M1) → (∀ k B2, tiS t L n i B = .inr (k, B2) → ∀ M1, Fr St9r M M1 → RMp M1 B2 → Q 1 M1) → wL_X9_reads_160 Q (n + 1) M 1 := by
  intro n
  induction n with
  | zero =>
    intro i B M _ _ hG _ _ hn _ _
    have := hG.1
    omega
  | succ n ih =>
    intro i B M h hi hG hp0 hR hn q0 q1
    have hB := hG.1
    have go : (hz : i < L) → (h2 : t i = 105 ∨ t i = 117) → w_X9_readsTie M (fun r6 M5 => wL_X9_reads_160 Q (n + 1) M5 r6) := by
      intro hz h2
      refine R_tie (n := n) hL h hz h2 hG hp0 hR (fun f p e M1 s1 s2 s3 => dd160 (q0 f p e M1 s1 s2 s3)) (fun a j b k x e1 e2 M1 s1 s2 s3 => ?_)
      have b1 := pa_r e1
      have b2 := pa_r e2
      have hf : (if t i = 105 then 7 else 8) = 7 ∨ (if t i = 105 then 7 else 8) = 8 := by
        by_cases y : t i = 105
        · rw [if_pos y]; exact Or.inl rfl
        · rw [if_neg y]; exact Or.inr rfl
      have e3 := tiS_3 (n := n) hz h2 x e1 e2
      generalize (if t i = 105 then 7 else 8) = f at hf e3 s3
      have v := adT_v B (f := f) (a := a) (b := b) (by omega)
      rw [e3] at q0 q1
      exact ih k (adT B f a b) M1 s2 b2.2.2.2 (GB_T hG (by omega) hf (by omega) (by omega)) (by rw [v.2.1 3 (by decide)]; exact hp0) s3 (by rw [v.1]; omega) (fun f' p e M2 r1 r2 r3 => q0 f' p e M2 (Fr_tr s1 r1) r2 r3) (fun k' B2 e M2 r1 r2 => q1 k' B2 e M2 (Fr_tr s1 r1) r2)
    have fin : ¬ (i < L ∧ t i = 105) → ¬ (i < L ∧ t i = 117) → wJ_X9_reads_190 Q M 1 := by
      intro y1 y2
      unfold wJ_X9_reads_190
      rw [h.1, h.2.2]
      refine ⟨fun e => absurd e (by decide), fun _ => ⟨fun z => ?_, fun z M3 e3 => ⟨fun _ => ?_, fun e => absurd rfl e⟩⟩⟩
      · have z := nI_inj (by omega) (by omega) z
        exact q1 i B (tiS_x (by omega)) M (Fr_rf _ _) hR
      · have z : i < L := by
          have : ¬ i = L := fun e => z (by rw [e])
          omega
        refine q0 1 i (tiS_0 z (fun e => e.elim (fun a => y1 ⟨z, a⟩) (fun a => y2 ⟨z, a⟩))) M3 ?_ ?_ ?_
        · rw [e3]; exact f85 (Fr_rf _ _) _ (by decide) (by decide)
        · rw [e3, ms_ne2 (by decide), h.2.2]
        · rw [e3, ms_eq]; rfl
    show wB_X9_reads_160 Q _ M 1
    unfold wB_X9_reads_160
    refine ⟨fun e => absurd e (by decide), fun _ => W9_letter h hL hi (fun y => ⟨fun _ => go y.1 (Or.inl y.2), fun e => absurd e (by decide)⟩) (fun y => ⟨fun e => absurd rfl e, fun _ => W9_letter h hL hi (fun y2 => ⟨fun e => absurd e (by decide), fun _ => go y2.1 (Or.inr y2.2)⟩) (fun y2 => ⟨fun _ => fin y y2, fun e => absurd rfl e⟩)⟩)⟩
theorem R_people (hL : L ≤ 120) : ∀ (n i : Nat) (B : NT) (M : Mem), TR M t L i → i ≤ L → GB B → RMp M B → 6 < n + B 0 3 → (∀ f p, peS t L n i B = .inl (f, p) → ∀ M1, Fr St9r M M1 → M1 85 12 = nI p → M1 85 13 = nI f → Q 0 M1) → (∀ k B2, peS t L n i B = .inr (k, B2) → ∀ M1, Fr St9r M M1 → TR M1 t L k → RMp M1 B2 → ∃ m, wL_X9_reads_160 Q m M1 1) → wL_X9_reads_122 Q (n + 1) M 1 := by
  intro n
  induction n with
  | zero =>
    intro i B M _ _ hG _ hn _ _
    have := hG.1
    omega
  | succ n ih =>
    intro i B M h hi hG hR hn q0 q1
    have hB := hG.1
    show wB_X9_reads_122 Q _ M 1
    unfold wB_X9_reads_122
    rw [h.1, h.2.2]
    refine ⟨fun e => absurd e (by decide), fun _ => ⟨fun z => ?_, fun z v5 e5 => ?_⟩⟩
    · have z := (nI_leI (by omega) (by omega)).mp z
      exact q1 i B (peS_x (fun e => by omega)) M (Fr_rf _ _) h hR
    · have z : i < L := Nat.lt_of_not_le (fun e => z (nI_le e (by omega)))
      subst e5
      rw [ix_nat (j := i) (by omega), h.2.1 i z]
      have k5 := kL_5 (t i)
      refine ⟨vp_in_nI (by omega) (by decide), W9_kl ⟨fun y => ?_, fun y => ?_⟩⟩
      · have y := (nI_leI (b := 0) (by omega) (by decide)).mp y
        exact q1 i B (peS_x (fun e => e.2 (by omega))) M (Fr_rf _ _) h hR
      · have y : kL (t i) ≠ 0 := fun e => y (by rw [e]; decide)
        have hs : i < L ∧ kL (t i) ≠ 0 := ⟨z, y⟩
        refine R_person (n := n) hL h hs hG hR (fun f p e M1 s1 s2 s3 => dd122 (q0 f p e M1 s1 s2 s3)) (fun a j b k x e1 e2 M1 s1 s2 s3 => ?_)
        have b1 := pa_r e1
        have b2 := pa_r e2
        have v := adP_v B (kL (t i)) a b
        rw [peS_3 hs x e1 e2] at q0 q1
        exact ih k (adP B (kL (t i)) a b) M1 s2 b2.2.2.2 (GB_P hG (by omega) (by omega) k5 (by omega) b2.2.1) s3 (by rw [v.1]; omega) (fun f' p e M2 r1 r2 r3 => q0 f' p e M2 (Fr_tr s1 r1) r2 r3) (fun k' B2 e M2 r1 r2 r3 => q1 k' B2 e M2 (Fr_tr s1 r1) r2 r3)
theorem R_doors (hL : L ≤ 120) : ∀ (n i : Nat) (B : NT) (M : Mem), TR M t L i → i ≤ L → GB B → RMp M B → 6 < n + B 0 2 → (∀ f p, drS t L n i B = .inl (f, p) → ∀ M1, Fr St9r M M1 → M1 85 12 = nI p → M1 85 13 = nI f → Q 0 M1) → (∀ k B2, drS t L n i B = .inr (k, B2) → ∀ M1, Fr St9r M M1 → TR M1 t L k → RMp M1 B2 → wJ_X9_reads_86 Q M1 1) → wL_X9_reads_65 Q (n + 1) M 1 := by
  intro n
  induction n with
  | zero =>
    intro i B M _ _ hG _ hn _ _
    have := hG.1
    omega
  | succ n ih =>
    intro i B M h hi hG hR hn q0 q1
    have hB := hG.1
    show wB_X9_reads_65 Q _ M 1
    unfold wB_X9_reads_65
    refine ⟨fun e => absurd e (by decide), fun _ => W9_letter h hL hi (fun hs => ⟨fun e => absurd e (by decide), fun _ => ?_⟩) (fun hs => ⟨fun _ => q1 i B (drS_x hs) M (Fr_rf _ _) h hR, fun e => absurd rfl e⟩)⟩
    refine R_door (n := n) hL h hs hG hR (fun f p e M1 s1 s2 s3 => dd65 (q0 f p e M1 s1 s2 s3)) (fun a j b k x e1 e2 M1 s1 s2 s3 => ?_)
    have b1 := pa_r e1
    have b2 := pa_r e2
    have v := adD_v B a b
    rw [drS_3 hs x e1 e2] at q0 q1
    exact ih k (adD B a b) M1 s2 b2.2.2.2 (GB_D hG (by omega) (by omega) (by omega) (of_decide_eq_false b2.2.2.1)) s3 (by rw [v.1]; omega) (fun f' p e M2 r1 r2 r3 => q0 f' p e M2 (Fr_tr s1 r1) r2 r3) (fun k' B2 e M2 r1 r2 r3 => q1 k' B2 e M2 (Fr_tr s1 r1) r2 r3)
theorem R_86 {k : Nat} {B : NT} {M : Mem} (hL : L ≤ 120) (h : TR M t L k) (hk : k ≤ L) (hG : GB B) (hR : RMp M B) (h3 : B 0 3 = 0) (h4 : B 0 4 = 0) (q0 : ∀ f p, (pe0 t L k B = .inl (f, p) ∨ ∃ k2 B2, pe0 t L k B = .inr (k2, B2) ∧ tiS t L 9 k2 B2 = .inl (f, p)) → ∀ M1, Fr St9r M M1 → M1 85 12 = nI p → M1 85 13 = nI f → Q 0 M1) (q1 : ∀ k2 B2 k3 B3, pe0 t L k B = .inr (k2, B2) → tiS t L 9 k2 B2 = .inr (k3, B3) → ∀ M1, Fr St9r M M1 → RMp M1 B3 → Q 1 M1) : wJ_X9_reads_86 Q M 1 := by
  have bad : ¬ (k < L ∧ kL (t k) ≠ 0) → ∀ M1 : Mem, M1 = ms M 85 13 1 → Q 0 M1 := fun y M1 e1 => q0 1 k (Or.inl (if_neg y)) M1 (by rw [e1]; exact f85 (Fr_rf _ _) _ (by decide) (by decide)) (by rw [e1, ms_ne2 (by decide), h.2.2]) (by rw [e1, ms_eq]; rfl)
  unfold wJ_X9_reads_86
  rw [h.1, h.2.2]
  refine ⟨fun e => absurd e (by decide), fun _ => ⟨fun z M1 e1 => ⟨Or.inl rfl, ?_⟩, fun z v6 e6 => ?_⟩⟩
  · have z := nI_inj (by omega) (by omega) z
    exact bad (fun e => by omega) M1 e1
  · have z : k < L := by
      have : ¬ k = L := fun e => z (by rw [e])
      omega
    subst e6
    rw [ix_nat (j := k) (by omega), h.2.1 k z]
    have k5 := kL_5 (t k)
    refine ⟨vp_in_nI (by omega) (by decide), W9_kl ⟨fun y => ⟨8, ?_⟩, fun y M1 e1 => ⟨Or.inl rfl, ?_⟩⟩⟩
    · have y : kL (t k) ≠ 0 := fun e => y (by rw [e]; rfl)
      have e0 : pe0 t L k B = peS t L 7 k B := if_pos ⟨z, y⟩
      refine R_people hL 7 k B M h hk hG hR (by omega) (fun f p e M1 s1 s2 s3 => q0 f p (Or.inl (e0.trans e)) M1 s1 s2 s3) (fun k2 B2 e M1 s1 s2 s3 => ⟨10, ?_⟩)
      have ep := e0.trans e
      obtain ⟨c1, c2, c3, c4, c5⟩ := pe0_ok hG hk ep
      exact R_ties hL 9 k2 B2 M1 s2 c1 c2 c5 s3 (by omega) (fun f p e M2 r1 r2 r3 => q0 f p (Or.inr ⟨k2, B2, ep, e⟩) M2 (Fr_tr s1 r1) r2 r3) (fun k3 B3 e M2 r1 r2 => q1 k2 B2 k3 B3 ep e M2 (Fr_tr s1 r1) r2)
    · have y : kL (t k) = 0 := nI_inj (b := 0) (by omega) (by decide) y
      exact bad (fun e => e.2 y) M1 e1
end RLP
/-- the reference's place for reading, begun anew -/
def inT (M : Mem) (i : Nat) : Mem := fun u x => if u = 86 ∧ 3402 ≤ x ∧ x < 3402 + i then (if x < 3492 then 0 else -1000000) else M u x
theorem inT_0 (M : Mem) : inT M 0 = M := by
  funext u x
  unfold inT
  rw [if_neg (by omega)]
theorem inT_s {M : Mem} {i : Nat} {v : Int32} (hv : v = if i < 90 then 0 else -1000000) : ms (inT M i) 86 (3402 + i) v = inT M (i + 1) := by
  funext u x
  rw [ms_app]
  unfold inT
  by_cases e : u = 86 ∧ x = 3402 + i
  · rw [if_pos e, if_pos (by omega), hv]
    by_cases h : i < 90
    · rw [if_pos h, if_pos (by omega)]
    · rw [if_neg h, if_neg (by omega)]
  · rw [if_neg e]
    by_cases e2 : u = 86 ∧ 3402 ≤ x ∧ x < 3402 + i
    · rw [if_pos e2, if_pos (show u = 86 ∧ 3402 ≤ x ∧ x < 3402 + (i + 1) by omega)]
    · rw [if_neg e2, if_neg (by omega)]
theorem inT_R (M : Mem) (v : Int32) : RMp (ms (inT M 126) 85 12 v) Bz := by
  intro f i hd
  rw [ms_ne (by decide)]
  have hm : mo f i < 126 ∧ (mo f i < 90 ↔ f ≠ 10) := by
    unfold dom at hd
    unfold mo
    (repeat' split) <;> omega
  unfold inT
  rw [if_pos (by omega)]
  unfold tw Bz
  by_cases e : f = 10
  · rw [if_neg (by omega), if_pos e]
  · rw [if_pos (by omega), if_neg e]; rfl
theorem inT_f (M : Mem) (v : Int32) : Fr St9r M (ms (inT M 126) 85 12 v) := by
  refine f85 (fun k j hn => ?_) _ (by decide) (by decide)
  unfold inT
  unfold St9r at hn
  rw [if_neg (by omega)]
section RD
variable {t : Nat → Int32} {L : Nat} {Q : Int32 → Mem → Prop}
theorem R_read {M : Mem} (hL : L ≤ 120) (h7 : M 85 7 = nI L) (ht : ∀ x, x < L → M 91 x = t x) (q0 : ∀ f p, twS t L = .inl (f, p) → ∀ M1, Fr St9r M M1 → M1 85 12 = nI p → M1 85 13 = nI f → Q 0 M1) (q1 : ∀ k B, twS t L = .inr (k, B) → ∀ M1, Fr St9r M M1 → RMp M1 B → Q 1 M1) : w_X9_reads M Q := by
  have go : ∀ m i : Nat, i + m = 126 → wL_X9_reads_2 Q (m + 1) (inT M i) (nI i) := by
    intro m
    induction m with
    | zero =>
      intro i hi
      have hi : i = 126 := by omega
      subst hi
      show wB_X9_reads_2 Q _ (inT M 126) (nI 126)
      unfold wB_X9_reads_2
      refine ⟨fun _ M2 e2 => ?_, fun e => absurd (nI_le (a := 126) (b := 126) (by omega) (by decide)) e⟩
      have f2 : Fr St9r M M2 := by rw [e2]; exact inT_f M 0
      have hR2 : RMp M2 Bz := by rw [e2]; exact inT_R M 0
      have h2 : TR M2 t L 0 := ⟨(f2 85 7 (fun z => by unfold St9r at z; omega)).trans h7, fun x hx => (f2 91 x (fun z => by unfold St9r at z; omega)).trans (ht x hx), by rw [e2, ms_eq]; rfl⟩
      refine R_law hL h2 hR2 (fun f p e M3 g1 g2 g3 => ⟨fun _ => ⟨1, dd65 (q0 f p (twS_1 e) M3 (Fr_tr f2 g1) g2 g3)⟩, fun e => absurd rfl e⟩) (fun k B el M3 g1 g2 g3 => ⟨fun e => absurd e (by decide), fun _ => ?_⟩)
      obtain ⟨a1, a2, a3, a4, a5⟩ := laS_ok el
      have f3 := Fr_tr f2 g1
      refine W9_letter g2 hL a1 (fun hs => ⟨fun _ => ⟨8, ?_⟩, fun e => absurd e (by decide)⟩) (fun hs => ⟨fun e => absurd rfl e, fun _ M12 e12 => ⟨Or.inl rfl, ?_⟩⟩)
      · have e0 : dr0 t L k B = drS t L 7 k B := if_pos hs
        refine R_doors hL 7 k B M3 g2 a1 a2 g3 (by omega) (fun f p e M4 k1 k2 k3 => q0 f p (twS_2 el (e0.trans e)) M4 (Fr_tr f3 k1) k2 k3) (fun k2 B2 e M4 k1 kk2 k3 => ?_)
        have ed := e0.trans e
        obtain ⟨b1, b2, b3, b4, b5⟩ := dr0_ok a2 a1 ed
        refine R_86 hL kk2 b1 b2 k3 (by omega) (by omega) (fun f p e M5 j1 j2 j3 => q0 f p ?_ M5 (Fr_tr (Fr_tr f3 k1) j1) j2 j3) (fun k2' B2' k3' B3' e3 e4 M5 j1 j2 => q1 k3' B3' ((twS_4 el ed e3).trans e4) M5 (Fr_tr (Fr_tr f3 k1) j1) j2)
        rcases e with e | ⟨k4, B4, e3, e4⟩
        · exact twS_3 el ed e
        · exact (twS_4 el ed e3).trans e4
      · refine q0 1 k (twS_2 el (if_neg hs)) M12 ?_ ?_ ?_
        · rw [e12]; exact f85 f3 _ (by decide) (by decide)
        · rw [e12, ms_ne2 (by decide), g2.2.2]
        · rw [e12, ms_eq]; rfl
    | succ m ih =>
      intro i hi
      show wB_X9_reads_2 Q _ (inT M i) (nI i)
      unfold wB_X9_reads_2
      refine ⟨fun e => absurd e (nI_ge (a := i) (b := 126) (by omega) (by decide)), fun _ => ?_⟩
      rw [show (3402 : Int32) + nI i = nI (3402 + i) from nI_add 3402 i, ix_nat (j := 3402 + i) (by omega)]
      refine ⟨fun z => ⟨vp_in_nI (by omega) (by decide), fun M15 e15 v16 e16 => ?_⟩, fun z => ⟨vp_in_nI (by omega) (by decide), fun M15 e15 v16 e16 => ?_⟩⟩
      · have z := (nI_leI (a := 90) (by decide) (by omega)).mp z
        rw [inT_s (by rw [if_neg (by omega)])] at e15
        rw [e15, e16, nI_1]
        exact ih (i + 1) (by omega)
      · have z : ¬ 90 ≤ i := fun e => z (nI_le (a := 90) e (by omega))
        rw [inT_s (by rw [if_pos (by omega)])] at e15
        rw [e15, e16, nI_1]
        exact ih (i + 1) (by omega)
  unfold w_X9_reads
  refine ⟨127, ?_⟩
  have h := go 126 0 (by omega)
  rw [inT_0] at h
  exact h
end RD
