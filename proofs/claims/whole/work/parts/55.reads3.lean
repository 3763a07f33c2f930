section KD
variable {M : Mem} {k x s : Int32} {n : Nat} {Q : Int32 → Mem → Prop}
theorem ok_A (e : x = k) (q : Q 1 M) : wL_X8_isOfKind_4 Q (n + 1) M k x s :=
  ⟨fun _ => ⟨fun h => absurd e h, fun _ => q⟩, fun _ => ⟨fun _ => ⟨fun h => absurd e h, fun _ => q⟩, fun h => absurd e h⟩⟩
theorem ok_B {j : Nat} (hj : j < 6) (hs : ¬ 6 ≤ s) (e : ¬ nI j = k) (h : wL_X8_isOfKind_4 Q n M k (tb 0 j) (s + 1)) : wL_X8_isOfKind_4 Q (n + 1) M k (nI j) s := by
  refine ⟨fun h => absurd h hs, fun _ => ⟨fun h => absurd h e, fun _ => ?_⟩⟩
  refine (W8_ix (n := 6) (by decide)).mpr ?_
  rw [bI_t ⟨j, hj, rfl⟩]
  refine ⟨fun e => absurd e (by decide), fun _ => ⟨vp_in_nI hj (by decide), fun v7 e7 v8 e8 => ?_⟩⟩
  rw [e7, e8, ix_nat (by omega)]
  exact h
theorem ok_C (e : ¬ x = k) (hx : x = -1000000) (q : Q 0 M) : wL_X8_isOfKind_4 Q (n + 1) M k x s := by
  have w : wJ_X8_isOfKind_36 Q M k x := ⟨fun _ => q, fun h => absurd h e⟩
  refine ⟨fun _ => w, fun _ => ⟨fun h => absurd h e, fun _ => ?_⟩⟩
  refine (W8_ix (n := 6) (by decide)).mpr ?_
  rw [bI_f (fun ⟨j, hj, ej⟩ => by
    have h1 := congrArg Int32.toInt (hx.symm.trans ej)
    rw [nI_toInt (by omega), show (-1000000 : Int32).toInt = -1000000 from by decide] at h1
    omega)]
  exact ⟨fun _ => w, fun e => absurd rfl e⟩
theorem ok_0 (hk : ¬ k = -1000000) (hs : ¬ 6 ≤ s) (q : Q (bI (k = 0)) M) : wL_X8_isOfKind_4 Q (n + 2) M k 0 s := by
  by_cases e : k = 0
  · rw [bI_t e] at q; exact ok_A e.symm q
  · rw [bI_f e] at q
    exact ok_B (j := 0) (by decide) hs (fun z => e z.symm) (ok_C (fun z => hk z.symm) rfl q)
theorem ok_1 (hk : ¬ k = -1000000) (hs : ¬ 6 ≤ s) (hs2 : ¬ 6 ≤ s + 1) (q : Q (bI (k = 1 ∨ k = 0)) M) : wL_X8_isOfKind_4 Q (n + 3) M k 1 s := by
  by_cases e : k = 1
  · rw [bI_t (Or.inl e)] at q; exact ok_A e.symm q
  · rw [bI_congr (show (k = 1 ∨ k = 0) ↔ k = 0 from ⟨fun z => z.resolve_left e, Or.inr⟩)] at q
    exact ok_B (j := 1) (by decide) hs (fun z => e z.symm) (ok_0 hk hs2 q)
theorem ok_4 (hk : ¬ k = -1000000) (hs : ¬ 6 ≤ s) (hs2 : ¬ 6 ≤ s + 1) (q : Q (bI (k = 4 ∨ k = 0)) M) : wL_X8_isOfKind_4 Q (n + 3) M k 4 s := by
  by_cases e : k = 4
  · rw [bI_t (Or.inl e)] at q; exact ok_A e.symm q
  · rw [bI_congr (show (k = 4 ∨ k = 0) ↔ k = 0 from ⟨fun z => z.resolve_left e, Or.inr⟩)] at q
    exact ok_B (j := 4) (by decide) hs (fun z => e z.symm) (ok_0 hk hs2 q)
theorem ok_2 (hk : ¬ k = -1000000) (q : Q (bI (k = 2 ∨ k = 1 ∨ k = 0)) M) : wL_X8_isOfKind_4 Q (n + 4) M k 2 0 := by
  by_cases e : k = 2
  · rw [bI_t (Or.inl e)] at q; exact ok_A e.symm q
  · rw [bI_congr (show (k = 2 ∨ k = 1 ∨ k = 0) ↔ (k = 1 ∨ k = 0) from ⟨fun z => z.resolve_left e, Or.inr⟩)] at q
    exact ok_B (j := 2) (by decide) (by decide) (fun z => e z.symm) (ok_1 hk (by decide) (by decide) q)
theorem ok_3 (hk : ¬ k = -1000000) (q : Q (bI (k = 3 ∨ k = 1 ∨ k = 0)) M) : wL_X8_isOfKind_4 Q (n + 4) M k 3 0 := by
  by_cases e : k = 3
  · rw [bI_t (Or.inl e)] at q; exact ok_A e.symm q
  · rw [bI_congr (show (k = 3 ∨ k = 1 ∨ k = 0) ↔ (k = 1 ∨ k = 0) from ⟨fun z => z.resolve_left e, Or.inr⟩)] at q
    exact ok_B (j := 3) (by decide) (by decide) (fun z => e z.symm) (ok_1 hk (by decide) (by decide) q)
theorem ok_5 (hk : ¬ k = -1000000) (q : Q (bI (k = 5 ∨ k = 4 ∨ k = 0)) M) : wL_X8_isOfKind_4 Q (n + 4) M k 5 0 := by
  by_cases e : k = 5
  · rw [bI_t (Or.inl e)] at q; exact ok_A e.symm q
  · rw [bI_congr (show (k = 5 ∨ k = 4 ∨ k = 0) ↔ (k = 4 ∨ k = 0) from ⟨fun z => z.resolve_left e, Or.inr⟩)] at q
    exact ok_B (j := 5) (by decide) (by decide) (fun z => e z.symm) (ok_4 hk (by decide) (by decide) q)
/-- own is of KIND k -/
def isK (own : Nat) (k : Int32) : Prop := k = 0 ∨ k = nI own ∨ (k = 1 ∧ (own = 2 ∨ own = 3)) ∨ (k = 4 ∧ own = 5)
theorem W8_ofK {own : Nat} (h1 : 1 ≤ own) (h5 : own ≤ 5) (hk : ¬ k = -1000000) (q : Q (bI (isK own k)) M) : w_X8_isOfKind M (nI own) k Q := by
  refine ⟨6, ?_⟩
  rcases (show own = 1 ∨ own = 2 ∨ own = 3 ∨ own = 4 ∨ own = 5 by omega) with rfl | rfl | rfl | rfl | rfl
  · refine ok_1 hk (by decide) (by decide) ?_
    rw [bI_congr (show (k = 1 ∨ k = 0) ↔ isK 1 k from ⟨fun z => z.elim (fun e => Or.inr (Or.inl e)) Or.inl, fun z => by
      rcases z with z | z | ⟨z, y⟩ | ⟨z, y⟩
      · exact Or.inr z
      · exact Or.inl z
      · omega
      · omega⟩)]
    exact q
  · refine ok_2 hk ?_
    rw [bI_congr (show (k = 2 ∨ k = 1 ∨ k = 0) ↔ isK 2 k from ⟨fun z => by
      rcases z with z | z | z
      · exact Or.inr (Or.inl z)
      · exact Or.inr (Or.inr (Or.inl ⟨z, Or.inl rfl⟩))
      · exact Or.inl z, fun z => by
      rcases z with z | z | ⟨z, y⟩ | ⟨z, y⟩
      · exact Or.inr (Or.inr z)
      · exact Or.inl z
      · exact Or.inr (Or.inl z)
      · omega⟩)]
    exact q
  · refine ok_3 hk ?_
    rw [bI_congr (show (k = 3 ∨ k = 1 ∨ k = 0) ↔ isK 3 k from ⟨fun z => by
      rcases z with z | z | z
      · exact Or.inr (Or.inl z)
      · exact Or.inr (Or.inr (Or.inl ⟨z, Or.inr rfl⟩))
      · exact Or.inl z, fun z => by
      rcases z with z | z | ⟨z, y⟩ | ⟨z, y⟩
      · exact Or.inr (Or.inr z)
      · exact Or.inl z
      · exact Or.inr (Or.inl z)
      · omega⟩)]
    exact q
  · refine ok_4 hk (by decide) (by decide) ?_
    rw [bI_congr (show (k = 4 ∨ k = 0) ↔ isK 4 k from ⟨fun z => z.elim (fun e => Or.inr (Or.inl e)) Or.inl, fun z => by
      rcases z with z | z | ⟨z, y⟩ | ⟨z, y⟩
      · exact Or.inr z
      · exact Or.inl z
      · omega
      · omega⟩)]
    exact q
  · refine ok_5 hk ?_
    rw [bI_congr (show (k = 5 ∨ k = 4 ∨ k = 0) ↔ isK 5 k from ⟨fun z => by
      rcases z with z | z | z
      · exact Or.inr (Or.inl z)
      · exact Or.inr (Or.inr (Or.inr ⟨z, rfl⟩))
      · exact Or.inl z, fun z => by
      rcases z with z | z | ⟨z, y⟩ | ⟨z, y⟩
      · exact Or.inr (Or.inr z)
      · exact Or.inl z
      · omega
      · exact Or.inr (Or.inl z)⟩)]
    exact q
theorem nI_e {a : Nat} (h : a < 10) (b : Nat) (hb : b < 10) : (nI a = nI b) ↔ a = b := nI_eq (by omega) (by omega)
theorem W9_ofK {A : Tn} {p : Nat} (hM : RM M 0 A) (hV : V A) (hp : p < np A) (q : Q (bI (isK (na A 3 p) k)) M) : w_X9_isOf M (nI p) k Q := by
  have hn := (V_np hV).2
  obtain ⟨k3, k3a, k3b, -⟩ := hV.2.2.1 p hp
  have e3 : M 86 (18 + p) = nI (na A 3 p) := (RM0p hM hp (f := 3) (by decide) (by decide)).trans k3
  simp only [w_X9_isOf, wJ_X9_isOf_34, forall_eq, show 18 + nI p = nI (18 + p) from lin2 18 p, ix_nat (show 18 + p < 2 ^ 31 by omega), e3]
  generalize na A 3 p = own at k3a k3b q
  have n2 : (nI own = 2) ↔ own = 2 := nI_e (by omega) 2 (by decide)
  have n3 : (nI own = 3) ↔ own = 3 := nI_e (by omega) 3 (by decide)
  have n5 : (nI own = 5) ↔ own = 5 := nI_e (by omega) 5 (by decide)
  rw [n2, n3, n5]
  unfold isK at q
  refine ⟨vp_in_nI (by omega) (by decide), fun z0 => ?_, fun z0 => ⟨fun z1 => ?_, fun z1 => ⟨fun z2 => ⟨fun z3 => ?_, fun z3 => ⟨fun z4 => ?_, fun z4 => ?_⟩⟩, fun z2 => ⟨fun z3 => ?_, fun z3 => ⟨fun z4 => ?_, fun z4 => ⟨fun z5 => ?_, fun z5 => ⟨fun z6 => ?_, fun z6 => ?_⟩⟩⟩⟩⟩⟩⟩
  · rw [bI_t (Or.inl z0)] at q; exact q
  · rw [bI_t (Or.inr (Or.inl z1))] at q; exact q
  · rw [bI_f (by
      rintro (h | h | ⟨h, _⟩ | ⟨h, _⟩)
      · exact z0 h
      · exact z1 h
      · exact z2 h
      · exact z3 h)] at q; exact q
  · rw [bI_f (by
      rintro (h | h | ⟨h, _⟩ | ⟨_, h⟩)
      · exact z0 h
      · exact z1 h
      · exact z2 h
      · exact z4 h)] at q; exact q
  · rw [bI_t (Or.inr (Or.inr (Or.inr ⟨z3, z4⟩)))] at q; exact q
  · rw [bI_t (Or.inr (Or.inr (Or.inl ⟨z2, Or.inl z3⟩)))] at q; exact q
  · rw [bI_t (Or.inr (Or.inr (Or.inl ⟨z2, Or.inr z4⟩)))] at q; exact q
  · rw [bI_f (by
      rintro (h | h | ⟨_, h | h⟩ | ⟨h, _⟩)
      · exact z0 h
      · exact z1 h
      · exact z3 h
      · exact z4 h
      · exact z5 h)] at q; exact q
  · rw [bI_f (by
      rintro (h | h | ⟨_, h | h⟩ | ⟨_, h⟩)
      · exact z0 h
      · exact z1 h
      · exact z3 h
      · exact z4 h
      · exact z6 h)] at q; exact q
  · rw [bI_t (Or.inr (Or.inr (Or.inr ⟨z5, z6⟩)))] at q; exact q
end KD
theorem fnd3 (M : Mem) (v : Int32) : IStat (ms (ms M 0 11 v) 85 9 v) ∧ Fr SRow M (ms (ms M 0 11 v) 85 9 v) := by
  refine ⟨?_, Fr_ms (Fr_ms (Fr_rf _ _) v (by simp [SRow])) v (by simp [SRow])⟩
  show ms (ms M 0 11 v) 85 9 v 0 11 = ms (ms M 0 11 v) 85 9 v 85 9
  rw [ms_eq, ms_ne (by decide), ms_eq]
theorem RM_msS {M : Mem} {A : Tn} {k j : Nat} {v : Int32} (h : RM M 0 A) (hV : V A) (hk : k ≠ 86) : RM (ms M k j v) 0 A := RM_86 h hV (fun i => by rw [ms_ne (fun e => hk e.symm)])
def Sst (k j : Nat) : Prop := (k = 0 ∧ j = 11) ∨ (k = 85 ∧ j = 9)
theorem fnd4 (M : Mem) (v : Int32) : IStat (ms (ms M 0 11 v) 85 9 v) ∧ Fr Sst M (ms (ms M 0 11 v) 85 9 v) := ⟨(fnd3 M v).1, Fr_ms (Fr_ms (Fr_rf _ _) v (by simp [Sst])) v (by simp [Sst])⟩
theorem S_as (M : Mem) (a b : Int32) (A : Tn) (hC : RC M 41 A) (hM : RM M 0 A) (hV : V A) (hs : IStat M) : w_X8_as M a b (fun r M1 => w_X9_as M1 a b (fun r2 M2 => r = r2 ∧ IStat M2 ∧ Fr Sst M M2)) := by
  have hn := (V_np hV).2
  unfold w_X8_as
  refine P8 hC hV (fun p hp e => br1 ?_) (fun hne => br0 ?_)
  · subst e
    rw [W8w6]
    obtain ⟨k3, k3a, k3b, -⟩ := hV.2.2.1 p hp
    by_cases hb : isIx b 6
    · rw [bI_t hb]
      refine cr1 ⟨vp_in_nI (by omega) (by decide), ?_⟩
      have e3 : M (41 + 3) p = nI (na A 3 p) := (hC.2 3 _ (rel_p (by decide) (by decide) hp)).trans k3
      rw [ix_nat (by omega), e3]
      have hbn : ¬ b = -1000000 := fun e => by
        obtain ⟨j, hj, ej⟩ := hb
        have h1 := congrArg Int32.toInt (e.symm.trans ej)
        rw [nI_toInt (by omega), show (-1000000 : Int32).toInt = -1000000 from by decide] at h1
        omega
      refine W8_ofK k3a k3b hbn ?_
      rw [bI0, W8fi, W8un]
      refine ⟨fun z => ?_, fun z => ?_⟩
      · unfold w_X9_as
        refine P9 (RM_msS hM hV (by decide)) hV (fun p2 hp2 e => br1 ?_) (fun h => absurd ⟨p, hp, rfl⟩ h)
        rw [W9i5, bI_t hb]
        refine cr1 (W9_ofK (RM_msS hM hV (by decide)) hV hp ?_)
        rw [bI0, W9fi]
        exact ⟨fun _ => ⟨rfl, fnd4 M 3⟩, fun e => absurd z e⟩
      · unfold w_X9_as
        refine P9 (RM_msS hM hV (by decide)) hV (fun p2 hp2 e => br1 ?_) (fun h => absurd ⟨p, hp, rfl⟩ h)
        rw [W9i5, bI_t hb]
        refine cr1 (W9_ofK (RM_msS hM hV (by decide)) hV hp ?_)
        rw [bI0, W9we]
        exact ⟨fun e => absurd e z, fun _ => ⟨rfl, fnd4 M 0⟩⟩
    · rw [bI_f hb]
      refine cr0 ?_
      unfold w_X9_as
      refine P9 hM hV (fun p2 hp2 e => br1 ?_) (fun h => absurd ⟨p, hp, rfl⟩ h)
      rw [W9i5, bI_f hb]
      exact cr0 ⟨rfl, hs, Fr_rf _ _⟩
  · unfold w_X9_as
    exact P9 hM hV (fun p hp e => absurd ⟨p, hp, e⟩ hne) (fun _ => br0 ⟨rfl, hs, Fr_rf _ _⟩)
