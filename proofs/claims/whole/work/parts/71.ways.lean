/-! the class's ways -/
def SW (k _j : Nat) : Prop := 29 ≤ k ∧ k ≤ 40
theorem bal_SW {k j : Nat} (h : SBal k j) : SW k j := by unfold SBal at h; unfold SW; omega
theorem SW_scr {k j : Nat} (h : SW k j) : SScr k j := Or.inl h
theorem RC_SW {M M2 : Mem} {A : Tn} (h : RC M 41 A) (hf : Fr SW M M2) : RC M2 41 A := RC_fr h (fun f j hf2 => hf _ _ (by unfold SW; omega))
theorem W7_add {M : Mem} {m : Nat} {a b n : Int32} {Q : Mem → Prop} (hm : m < 7) (h : M 32 4 = nI m) (q : Q (ms (ms (ms (ms M 33 m a) 34 m b) 35 m n) 32 4 (nI (m + 1)))) : w_X7_add M a b n Q := by
  have hin : vp_in (nI m) 7 := vp_in_nI hm (by decide)
  unfold w_X7_add
  rw [h, ix_nat (by omega)]
  refine ⟨hin, fun M2 e2 => ?_⟩
  have k2 : M2 32 4 = nI m := by rw [e2, ms_ne (by decide), h]
  rw [k2, ix_nat (by omega)]
  refine ⟨hin, fun M4 e4 => ?_⟩
  have k4 : M4 32 4 = nI m := by rw [e4, ms_ne (by decide), k2]
  rw [k4, ix_nat (by omega)]
  refine ⟨hin, fun M6 e6 v7 e7 M8 e8 => ?_⟩
  have k6 : M6 32 4 = nI m := by rw [e6, ms_ne (by decide), k4]
  rw [k6, nI_1] at e7
  rw [e8, e7, e6, e4, e2]
  exact q
noncomputable def ob (A : Tn) (c d : Nat) : Bool := cb (Op A c d allA)
noncomputable def oc (A : Tn) (c d : Nat) : Nat := fb_ct (ob A c) d
def TKi (M : Mem) (A : Tn) (c i : Nat) : Prop := M 32 4 = nI (oc A c i) ∧ ∀ d, d < i → Op A c d allA → M 33 (oc A c d) = A 1 d ∧ M 34 (oc A c d) = A 2 d ∧ M 35 (oc A c d) = nI d
theorem oc_lt {A : Tn} {c d i : Nat} (h : d < i) (ho : Op A c d allA) : oc A c d < oc A c i := by
  have h1 : oc A c (d + 1) = oc A c d + 1 := by
    unfold oc
    rw [fb_ct_succ, if_pos (show ob A c _ = true from cb_t.mpr ho)]
  have h2 : oc A c (d + 1) ≤ oc A c i := fb_ct_mono _ h
  omega
theorem W7_take {M : Mem} {A : Tn} {c : Nat} {Q : Mem → Prop} (hA : RC M 41 A) (hV : V A) (hc : c < np A) (q : ∀ M2, Fr SW M M2 → TKi M2 A c (nd A) → Q M2) : w_X7_take 41 M (nI c) Q := by
  have hn := (V_np hV).2
  have hd6 := (V_nd hV).2
  have e2 : M 41 2 = nI (nd A) := (hA.1 2 (by decide)).trans (V_nd hV).1
  have go : ∀ m i : Nat, i + m = nd A → ∀ M1 : Mem, Fr SW M M1 → TKi M1 A c i → wL_X7_take_8 41 Q (m + 1) M1 (nI c) (nI i) := by
    intro m
    induction m with
    | zero =>
      intro i hi M1 hF hT
      have hi : i = nd A := by omega
      subst hi
      refine ⟨fun _ => q M1 hF hT, fun e => absurd ?_ e⟩
      rw [hF 41 2 (by unfold SW; omega), e2]; exact nI_le (Nat.le_refl _) (by omega)
    | succ m ih =>
      intro i hi M1 hF hT
      have hA1 := RC_SW hA hF
      refine ⟨fun e => absurd e (by rw [hF 41 2 (by unfold SW; omega), e2]; exact nI_ge (by omega) (by omega)), fun _ => ?_⟩
      refine W2_hold hA1 (by decide) hV hc (show i < nd A by omega) (fun M2 hF2 hB => ?_)
      refine W2_opens hn hB (fun k hk => bw_le hV hk (by omega)) (bv_3 A c) ?_
      have hF3 : Fr SW M M2 := Fr_tr hF (Fr_mono hF2 (fun k j h => bal_SW h))
      have hT2 : TKi M2 A c i := by
        unfold TKi at hT ⊢
        rw [hF2 32 4 (by unfold SBal; omega)]
        refine ⟨hT.1, fun d hd ho => ?_⟩
        rw [hF2 33 _ (by unfold SBal; omega), hF2 34 _ (by unfold SBal; omega), hF2 35 _ (by unfold SBal; omega)]
        exact hT.2 d hd ho
      have hA2 := RC_SW hA hF3
      have hin : vp_in (nI i) 6 := vp_in_nI (by omega) (by decide)
      by_cases ho : Op A c i allA
      · have ho2 : OPN (bw A c i) (bv A c) allA (np A) := ho
        rw [bI_t ho2]
        refine br1 ⟨hin, hin, ?_⟩
        have hlt : oc A c i ≤ i := fb_ct_le _ _
        rw [ix_nat (by omega), hA2.2 1 i (rel_d (by decide) (by decide) (by omega)), hA2.2 2 i (rel_d (by decide) (by decide) (by omega))]
        refine W7_add (m := oc A c i) (by omega) hT2.1 (fun v12 e12 => ?_)
        rw [e12, nI_1]
        have hs : oc A c (i + 1) = oc A c i + 1 := by unfold oc; rw [fb_ct_succ, if_pos (show ob A c _ = true from cb_t.mpr ho)]
        refine ih (i + 1) (by omega) _ (Fr_ms (Fr_ms (Fr_ms (Fr_ms hF3 _ (by unfold SW; omega)) _ (by unfold SW; omega)) _ (by unfold SW; omega)) _ (by unfold SW; omega)) ⟨?_, fun d hd hod => ?_⟩
        · rw [ms_eq, hs]
        · by_cases e : d = i
          · subst e
            exact ⟨by rw [ms_ne (by decide), ms_ne (by decide), ms_ne (by decide), ms_eq], by rw [ms_ne (by decide), ms_ne (by decide), ms_eq], by rw [ms_ne (by decide), ms_eq]⟩
          · have hl := oc_lt (show d < i by omega) hod
            have := hT2.2 d (by omega) hod
            rw [ms_ne (by decide), ms_ne (by decide), ms_ne (by decide), ms_ne2 (by omega), ms_ne (by decide), ms_ne (by decide), ms_ne2 (by omega), ms_ne (by decide), ms_ne (by decide), ms_ne2 (by omega), ms_ne (by decide), ms_ne (by decide)]
            exact this
      · have ho2 : ¬ OPN (bw A c i) (bv A c) allA (np A) := ho
        rw [bI_f ho2]
        refine br0 (fun v7 e7 => ?_)
        rw [e7, nI_1]
        have hs : oc A c (i + 1) = oc A c i := by
          unfold oc
          rw [fb_ct_succ, if_neg (fun (e : ob A c i = true) => ho (cb_t.mp e)), Nat.add_zero]
        refine ih (i + 1) (by omega) _ hF3 ⟨by rw [hs]; exact hT2.1, fun d hd hod => ?_⟩
        have hdi : d ≠ i := fun e => ho (e ▸ hod)
        exact hT2.2 d (by omega) hod
  unfold w_X7_take
  intro M1 e1
  refine ⟨nd A + 1, go (nd A) 0 (by omega) M1 ?_ ⟨?_, fun d hd => absurd hd (by omega)⟩⟩
  · rw [e1]; exact Fr_ms (Fr_rf _ _) _ (by unfold SW; omega)
  · rw [e1, ms_eq]; rfl
/-- the class's list tells the steps E -/
def EL (M : Mem) (m : Nat) (E : Nat → Nat → Prop) : Prop := m ≤ 7 ∧ M 32 4 = nI m ∧ (∀ k, k < m → ∃ a b, a < 6 ∧ b < 6 ∧ M 33 k = nI a ∧ M 34 k = nI b ∧ E a b) ∧ ∀ y x, E y x → ∃ k, k < m ∧ ((M 33 k = nI y ∧ M 34 k = nI x) ∨ (M 33 k = nI x ∧ M 34 k = nI y))
def SpI (E : Nat → Nat → Prop) (r s : Nat) (T : Nat → Nat → Prop) (M1 : Mem) : Prop := ∀ x, x < 6 → (∃ n, n ≤ s ∧ M1 36 x = nI n ∧ Dn E n r x ∧ ∀ m, m < n → ¬ Dn E m r x) ∨ (M1 36 x = nI (s + 1) ∧ ¬ Dn E s r x ∧ Dn E (s + 1) r x) ∨ (M1 36 x = -1000000 ∧ ¬ Dn E s r x ∧ ∀ y, T y x → ¬ Dn E s r y)
theorem W7_spread {E : Nat → Nat → Prop} {T : Nat → Nat → Prop} {r s a b : Nat} {M1 : Mem} {Q : Mem → Prop} (ha : a < 6) (hb : b < 6) (hE : E a b) (hs : s < 6) (hI : SpI E r s T M1) (q : ∀ M2, (∀ k j, k ≠ 36 → M2 k j = M1 k j) → SpI E r s (fun y x => T y x ∨ (y = a ∧ x = b)) M2 → Q M2) : w_X7_spread M1 (nI a) (nI b) (nI (s + 1)) Q := by
  unfold w_X7_spread
  rw [ix_nat (by omega), ix_nat (by omega), nI_pred]
  refine ⟨vp_in_nI ha (by decide), fun z => ?_, fun z => ⟨vp_in_nI hb (by decide), fun z2 => ?_, fun z2 => ⟨vp_in_nI hb (by decide), fun M6 e6 => ?_⟩⟩⟩
  · refine q M1 (fun _ _ _ => rfl) (fun x hx => ?_)
    rcases hI x hx with h | h | ⟨h1, h2, h3⟩
    · exact Or.inl h
    · exact Or.inr (Or.inl h)
    · refine Or.inr (Or.inr ⟨h1, h2, fun y hy => ?_⟩)
      rcases hy with hy | ⟨hy1, hy2⟩
      · exact h3 y hy
      · subst hy1 hy2
        intro hD
        rcases hI y ha with ⟨n, g1, g2, g3, g4⟩ | ⟨g1, g2, g3⟩ | ⟨g1, g2, g3⟩
        · have hns : n ≠ s := fun e => z (by rw [g2, e])
          exact h2 (Dn_mono (show n + 1 ≤ s by omega) (Dn_s.mpr (Or.inr ⟨y, g3, hE⟩)))
        · exact g2 hD
        · exact g2 hD
  · refine q M1 (fun _ _ _ => rfl) (fun x hx => ?_)
    rcases hI x hx with h | h | ⟨h1, h2, h3⟩
    · exact Or.inl h
    · exact Or.inr (Or.inl h)
    · refine Or.inr (Or.inr ⟨h1, h2, fun y hy => ?_⟩)
      rcases hy with hy | ⟨hy1, hy2⟩
      · exact h3 y hy
      · subst hy2
        exact absurd h1 z2
  · have hDa : Dn E s r a := by
      rcases hI a ha with ⟨n, g1, g2, g3, g4⟩ | ⟨g1, g2, g3⟩ | ⟨g1, g2, g3⟩
      · have : n = s := nI_inj (by omega) (by omega) (g2.symm.trans z)
        subst this
        exact g3
      · have : s + 1 = s := nI_inj (by omega) (by omega) (g1.symm.trans z)
        omega
      · exact absurd (z.symm.trans g1) (nI_none (by omega))
    refine q M6 (fun k j hk => by rw [e6, ms_ne hk]) (fun x hx => ?_)
    by_cases ex : x = b
    · subst ex
      refine Or.inr (Or.inl ⟨by rw [e6, ms_eq], ?_, Dn_s.mpr (Or.inr ⟨a, hDa, hE⟩)⟩)
      rcases hI x hx with ⟨n, g1, g2, g3, g4⟩ | ⟨g1, g2, g3⟩ | ⟨g1, g2, g3⟩
      · exact absurd (g2.symm.trans z2) (nI_none (by omega))
      · exact g2
      · exact g2
    · have e36 : M6 36 x = M1 36 x := by rw [e6, ms_ne2 ex]
      rw [e36]
      rcases hI x hx with h | h | ⟨h1, h2, h3⟩
      · exact Or.inl h
      · exact Or.inr (Or.inl h)
      · refine Or.inr (Or.inr ⟨h1, h2, fun y hy => ?_⟩)
        rcases hy with hy | ⟨hy1, hy2⟩
        · exact h3 y hy
        · exact absurd hy2 ex
def MsI (E : Nat → Nat → Prop) (r s : Nat) (M1 : Mem) : Prop := ∀ x, x < 6 → (∃ n, n ≤ s ∧ M1 36 x = nI n ∧ Dn E n r x ∧ ∀ m, m < n → ¬ Dn E m r x) ∨ (M1 36 x = -1000000 ∧ ¬ Dn E s r x)
theorem SpI_mono {E : Nat → Nat → Prop} {T T2 : Nat → Nat → Prop} {r s : Nat} {M1 : Mem} (h : SpI E r s T M1) (hT : ∀ y x, T2 y x → T y x) : SpI E r s T2 M1 := by
  intro x hx
  rcases h x hx with h | h | ⟨h1, h2, h3⟩
  · exact Or.inl h
  · exact Or.inr (Or.inl h)
  · exact Or.inr (Or.inr ⟨h1, h2, fun y hy => h3 y (hT y x hy)⟩)
theorem W7_measure {M : Mem} {m r : Nat} {E : Nat → Nat → Prop} {Q : Mem → Prop} (hL : EL M m E) (hs : ∀ a b, E a b → E b a) (hb6 : ∀ a b, E a b → a < 6 ∧ b < 6) (hr : r < 6) (q : ∀ M2, (∀ x, x < 6 → M2 36 x = fd E r x) → (∀ k j, k ≠ 36 → M2 k j = M k j) → Q M2) : w_X7_measureFrom M (nI r) Q := by
  obtain ⟨hm7, h32, hL1, hL2⟩ := hL
  have inner : ∀ (s : Nat), s < 5 → ∀ (R18 : Mem → Int32 → Prop), (∀ M2, (∀ k j, k ≠ 36 → M2 k j = M k j) → MsI E r (s + 1) M2 → R18 M2 (nI (s + 2))) → ∀ t i : Nat, i + t = m → ∀ M1 : Mem, (∀ k j, k ≠ 36 → M1 k j = M k j) → SpI E r s (fun y x => y < 6 ∧ x < 6 ∧ ∃ k, k < i ∧ ((M 33 k = nI y ∧ M 34 k = nI x) ∨ (M 33 k = nI x ∧ M 34 k = nI y))) M1 → wL_X7_measureFrom_26 Q R18 (t + 1) M1 (nI (s + 1)) (nI i) := by
    intro s hs5 R18 hR t
    induction t with
    | zero =>
      intro i hi M1 hF hI
      have hi : i = m := by omega
      subst hi
      refine ⟨fun _ v2 e2 => ?_, fun e => absurd ?_ e⟩
      · rw [e2, nI_1]
        refine hR M1 hF (fun x hx => ?_)
        rcases hI x hx with ⟨n, g1, g2, g3, g4⟩ | ⟨g1, g2, g3⟩ | ⟨g1, g2, g3⟩
        · exact Or.inl ⟨n, by omega, g2, g3, g4⟩
        · exact Or.inl ⟨s + 1, by omega, g1, g3, fun j hj hd => g2 (Dn_mono (by omega) hd)⟩
        · refine Or.inr ⟨g1, fun hd => ?_⟩
          rcases Dn_s.mp hd with hd | ⟨y, hy1, hy2⟩
          · exact g2 hd
          · exact g3 y ⟨(hb6 _ _ hy2).1, (hb6 _ _ hy2).2, hL2 y x hy2⟩ hy1
      · rw [hF 32 4 (by decide), h32]; exact nI_le (Nat.le_refl _) (by omega)
    | succ t ih =>
      intro i hi M1 hF hI
      refine ⟨fun e => absurd e (by rw [hF 32 4 (by decide), h32]; exact nI_ge (by omega) (by omega)), fun _ => ?_⟩
      have hin : vp_in (nI i) 7 := vp_in_nI (by omega) (by decide)
      obtain ⟨a, b, ha, hb, ea, eb, hE⟩ := hL1 i (by omega)
      rw [ix_nat (by omega), hF 33 i (by decide), hF 34 i (by decide), ea, eb]
      refine ⟨hin, hin, W7_spread ha hb hE (by omega) hI (fun M5 hF5 hI5 => ⟨hin, hin, ?_⟩)⟩
      rw [hF5 33 i (by decide), hF5 34 i (by decide), hF 33 i (by decide), hF 34 i (by decide), ea, eb]
      refine W7_spread hb ha (hs _ _ hE) (by omega) hI5 (fun M9 hF9 hI9 => fun v11 e11 => ?_)
      rw [e11, nI_1]
      refine ih (i + 1) (by omega) M9 (fun k j hk => (hF9 k j hk).trans ((hF5 k j hk).trans (hF k j hk))) (SpI_mono hI9 ?_)
      rintro y x ⟨hy6, hx6, k, hk, hh⟩
      by_cases e : k = i
      · subst e
        rw [ea, eb] at hh
        rcases hh with ⟨h1, h2⟩ | ⟨h1, h2⟩
        · exact Or.inl (Or.inr ⟨(nI_inj (by omega) (by omega) h1).symm, (nI_inj (by omega) (by omega) h2).symm⟩)
        · exact Or.inr ⟨(nI_inj (by omega) (by omega) h2).symm, (nI_inj (by omega) (by omega) h1).symm⟩
      · exact Or.inl (Or.inl ⟨hy6, hx6, k, by omega, hh⟩)
  have outer : ∀ t s : Nat, s + t = 5 → ∀ M1 : Mem, (∀ k j, k ≠ 36 → M1 k j = M k j) → MsI E r s M1 → wL_X7_measureFrom_18 Q (t + 1) M1 (nI (s + 1)) := by
    intro t
    induction t with
    | zero =>
      intro s hs5 M1 hF hI
      have hs5 : s = 5 := by omega
      subst hs5
      refine ⟨fun _ => q M1 (fun x hx => ?_) hF, fun e => absurd (by decide) e⟩
      refine fd_eq ?_
      rcases hI x hx with ⟨n, g1, g2, g3, g4⟩ | ⟨g1, g2⟩
      · exact Or.inl ⟨n, g1, g2, g3, g4⟩
      · exact Or.inr ⟨g1, g2⟩
    | succ t ih =>
      intro s hs5 M1 hF hI
      refine ⟨fun e => absurd e (nI_ge (a := s + 1) (b := 6) (by omega) (by decide)), fun _ => ⟨m + 1, ?_⟩⟩
      refine inner s (by omega) _ (fun M2 hF2 hI2 => ih (s + 1) (by omega) M2 hF2 hI2) m 0 (by omega) M1 hF (fun x hx => ?_)
      rcases hI x hx with g | ⟨g1, g2⟩
      · exact Or.inl g
      · exact Or.inr (Or.inr ⟨g1, g2, fun y ⟨_, _, k, hk, _⟩ => absurd hk (by omega)⟩)
  unfold w_X7_measureFrom
  refine W_fill (by decide) ⟨vp_in_nI hr (by decide), fun M4 e4 => ⟨6, ?_⟩⟩
  rw [ix_nat (by omega)] at e4
  refine outer 5 0 (by omega) M4 (fun k j hk => ?_) (fun x hx => ?_)
  · rw [e4, ms_ne hk]
    unfold fillM
    rw [va_up_ne _ _ hk]
  · by_cases ex : x = r
    · subst ex
      refine Or.inl ⟨0, Nat.le_refl _, by rw [e4, ms_eq]; rfl, Dn_0.mpr rfl, fun j hj => absurd hj (by omega)⟩
    · refine Or.inr ⟨?_, fun hd => ex (Dn_0.mp hd).symm⟩
      rw [e4, ms_ne2 ex]
      unfold fillM
      rw [va_up_self, if_pos (show x < ln 36 from hx)]
/-- a set of numbers as bits -/
def msk (p : Nat → Bool) : Nat → Nat
  | 0 => 0
  | n + 1 => msk p n ||| (if p n then 2 ^ n else 0)
theorem msk_bit (p : Nat → Bool) (x : Nat) : ∀ n, (msk p n).testBit x = (decide (x < n) && p x)
  | 0 => by simp [msk]
  | n + 1 => by
    have ih := msk_bit p x n
    unfold msk
    rw [Nat.testBit_or, ih]
    by_cases e : x = n
    · subst e
      by_cases hp : p x = true
      · rw [if_pos hp, hp, Nat.testBit_two_pow_self]; simp
      · rw [if_neg hp, Nat.zero_testBit]; simp [Bool.eq_false_iff.mpr hp]
    · have h1 : (if p n = true then 2 ^ n else 0).testBit x = false := by
        split
        · rw [Nat.testBit_two_pow]; exact decide_eq_false (fun h => e h.symm)
        · exact Nat.zero_testBit x
      rw [h1, Bool.or_false]
      congr 1
      exact decide_eq_decide.mpr (by omega)
theorem msk_lt (p : Nat → Bool) : ∀ n, msk p n < 2 ^ n
  | 0 => by simp [msk]
  | n + 1 => by
    have ih := msk_lt p n
    unfold msk
    refine Nat.or_lt_two_pow (by rw [Nat.pow_succ]; omega) ?_
    split
    · exact Nat.pow_lt_pow_right (by decide) (by omega)
    · exact Nat.two_pow_pos _
theorem msk_cong {p q : Nat → Bool} : ∀ {n : Nat}, (∀ k, k < n → p k = q k) → msk p n = msk q n
  | 0, _ => rfl
  | n + 1, h => by
    unfold msk
    rw [msk_cong (fun k hk => h k (by omega)), h n (by omega)]
theorem shl6 : ∀ k, k < 6 → (1 : Int32) <<< (nI k &&& 31) = nI (2 ^ k) := by decide
theorem or_pow {t k : Nat} (hk : k < 6) : nI t ||| (1 <<< (nI k &&& 31)) = nI (t ||| 2 ^ k) := by rw [shl6 k hk, fa_or]
theorem W7_rooms {M : Mem} {p : Nat → Bool} {Q : Int32 → Mem → Prop} (h : ∀ x, x < 6 → (p x = true ↔ ¬ M 36 x = -1000000)) (q : Q (nI (msk p 6)) M) : w_X7_roomsMeasured M Q := by
  have go : ∀ m i : Nat, i + m = 6 → wL_X7_roomsMeasured_4 Q (m + 1) M (nI (msk p i)) (nI i) := by
    intro m
    induction m with
    | zero =>
      intro i hi
      have hi : i = 6 := by omega
      subst hi
      exact ⟨fun _ => q, fun e => absurd (by decide) e⟩
    | succ m ih =>
      intro i hi
      refine ⟨fun e => absurd e (nI_ge (a := i) (b := 6) (by omega) (by decide)), fun _ => ⟨vp_in_nI (by omega) (by decide), ?_⟩⟩
      rw [ix_nat (by omega)]
      have hh := ih (i + 1) (by omega)
      unfold msk at hh
      refine ⟨fun z v4 e4 => ?_, fun z v5 e5 v6 e6 => ?_⟩
      · rw [if_neg (fun e => (h i (by omega)).mp e z), Nat.or_zero] at hh
        rw [e4, nI_1]; exact hh
      · rw [if_pos ((h i (by omega)).mpr z)] at hh
        rw [e6, nI_1, e5, or_pow (by omega)]; exact hh
  exact ⟨7, go 6 0 (by omega)⟩
