/-! the reference's sets of ROOMS -/
theorem msk_s (p : Nat → Bool) (n : Nat) : msk p (n + 1) = msk p n ||| (if p n then 2 ^ n else 0) := rfl
theorem bit6 : ∀ s, s < 64 → ∀ c, c < 6 → (bitv (nI s) c = 0 ↔ s.testBit c = false) := by decide +kernel
theorem bit6t {s c : Nat} (hs : s < 64) (hc : c < 6) : (¬ bitv (nI s) c = 0) ↔ s.testBit c = true := by
  rw [bit6 s hs c hc]
  cases s.testBit c
  · exact ⟨fun h => absurd rfl h, fun h => absurd h (by decide)⟩
  · exact ⟨fun _ => rfl, fun _ h => absurd h (by decide)⟩
theorem bits_eq {s t : Nat} (hs : s < 64) (ht : t < 64) (h : ∀ x, x < 6 → (s.testBit x = true ↔ t.testBit x = true)) : s = t := by
  refine Nat.eq_of_testBit_eq (fun x => ?_)
  by_cases hx : x < 6
  · exact Bool.eq_iff_iff.mpr (h x hx)
  · have h6 : (2 : Nat) ^ 6 ≤ 2 ^ x := Nat.pow_le_pow_right (by decide) (by omega)
    rw [Nat.testBit_lt_two_pow (by omega), Nat.testBit_lt_two_pow (by omega)]
def S85 (k j : Nat) : Prop := k = 85 ∧ 16 ≤ j
theorem S85_scr {k j : Nat} (h : S85 k j) : SScr k j := by unfold S85 at h; unfold SScr; omega
theorem RM_S85 {M M2 : Mem} {A : Tn} {B : Nat} (h : RM M B A) (hV : V A) (hf : Fr S85 M M2) : RM M2 B A := RM_86 h hV (fun i => hf _ _ (by unfold S85; omega))
theorem W9_layOpen {M : Mem} {A : Tn} {c : Nat} {Q : Mem → Prop} (hA : RM M 0 A) (hV : V A) (h0 : M 85 15 = 0) (hc : c < np A) (q : ∀ M2, Fr S85 M M2 → M2 85 16 = nI (msk (ob A c) (nd A)) → M2 85 17 = -1000000 → Q M2) : w_X9_layOpen M (nI c) Q := by
  have hd6 := (V_nd hV).2
  have e2 : M 86 2 = nI (nd A) := (RM0 hA (j := 2) (by decide)).trans (V_nd hV).1
  have go : ∀ m i : Nat, i + m = nd A → ∀ M1 : Mem, Fr S85 M M1 → M1 85 16 = nI (msk (ob A c) i) → M1 85 17 = -1000000 → wL_X9_layOpen_19 Q (m + 1) M1 (nI c) (nI i) := by
    intro m
    induction m with
    | zero =>
      intro i hi M1 hF h16 h17
      have hi : i = nd A := by omega
      subst hi
      refine ⟨fun _ => q M1 hF h16 h17, fun e => absurd ?_ e⟩
      rw [hF 86 2 (by unfold S85; omega), e2]; exact nI_le (Nat.le_refl _) (by omega)
    | succ m ih =>
      intro i hi M1 hF h16 h17
      refine ⟨fun e => absurd e (by rw [hF 86 2 (by unfold S85; omega), e2]; exact nI_ge (by omega) (by omega)), fun _ => ?_⟩
      refine W9_open0 (B := 0) (RM_S85 hA hV hF) (by decide) hV ((hF 85 15 (by unfold S85; omega)).trans h0) hc (show i < nd A by omega) ?_
      rw [h16]
      by_cases ho : Op A c i allA
      · rw [bI_t ho]
        refine br1 (fun v8 e8 M9 e9 v10 e10 => ?_)
        rw [e10, nI_1]
        refine ih (i + 1) (by omega) M9 (by rw [e9]; exact Fr_ms hF _ (by unfold S85; omega)) ?_ (by rw [e9, ms_ne2 (by decide)]; exact h17)
        rw [e9, ms_eq, e8, or_pow (by omega)]
        rw [msk_s, if_pos (show ob A c i = true from cb_t.mpr ho)]
      · rw [bI_f ho]
        refine br0 (fun v8 e8 M9 e9 v10 e10 => ?_)
        rw [e10, nI_1]
        refine ih (i + 1) (by omega) M9 (by rw [e9]; exact Fr_ms hF _ (by unfold S85; omega)) ?_ (by rw [e9, ms_ne2 (by decide)]; exact h17)
        rw [e9, ms_eq, e8, Int32.or_zero]
        rw [msk_s, if_neg (fun (e : ob A c i = true) => ho (cb_t.mp e)), Nat.or_zero]
  unfold w_X9_layOpen
  intro M1 e1 M2 e2 M3 e3
  refine ⟨nd A + 1, go (nd A) 0 (by omega) M3 ?_ ?_ ?_⟩
  · rw [e3, e2, e1]
    exact Fr_ms (Fr_ms (Fr_ms (Fr_rf _ _) _ (by unfold S85; omega)) _ (by unfold S85; omega)) _ (by unfold S85; omega)
  · rw [e3, ms_ne2 (by decide), e2, ms_ne2 (by decide), e1, ms_eq]; rfl
  · rw [e3, ms_ne2 (by decide), e2, ms_eq]
def fstep (s u v t : Nat) : Nat := (t ||| (if s.testBit u then 2 ^ v else 0)) ||| (if s.testBit v then 2 ^ u else 0)
theorem fstep_lt {s u v t : Nat} (hu : u < 6) (hv : v < 6) (ht : t < 64) : fstep s u v t < 64 := by
  unfold fstep
  have h1 : ∀ w, w < 6 → ∀ b : Bool, (if b then 2 ^ w else 0) < 2 ^ 6 := by decide
  exact Nat.or_lt_two_pow (n := 6) (Nat.or_lt_two_pow ht (h1 v hv _)) (h1 u hu _)
theorem ifbit (b : Bool) (w x : Nat) : (if b then 2 ^ w else 0).testBit x = true ↔ b = true ∧ x = w := by
  cases b
  · simp
  · rw [if_pos rfl, Nat.testBit_two_pow]
    rw [decide_eq_true_iff]
    exact ⟨fun h => ⟨rfl, h.symm⟩, fun h => h.2.symm⟩
theorem fstep_bit {s u v t x : Nat} : (fstep s u v t).testBit x = true ↔ t.testBit x = true ∨ (s.testBit u = true ∧ x = v) ∨ (s.testBit v = true ∧ x = u) := by
  unfold fstep
  rw [Nat.testBit_or, Nat.testBit_or, Bool.or_eq_true, Bool.or_eq_true, ifbit, ifbit, or_assoc]
/-- steps through DOORS that OPEN to c, and N -/
def Ew (A : Tn) (c : Nat) (N : Nat → Nat → Prop) (y x : Nat) : Prop := y < 6 ∧ x < 6 ∧ ((∃ d, d < nd A ∧ Op A c d allA ∧ ((na A 1 d = y ∧ na A 2 d = x) ∨ (na A 1 d = x ∧ na A 2 d = y))) ∨ N y x)
def N0 (_ _ : Nat) : Prop := False
def N1 (a b y x : Nat) : Prop := (y = a ∧ x = b) ∨ (y = b ∧ x = a)
theorem Ew_lt {A : Tn} {c : Nat} {N : Nat → Nat → Prop} (a b : Nat) (h : Ew A c N a b) : a < 6 ∧ b < 6 := ⟨h.1, h.2.1⟩
theorem Ew_sym {A : Tn} {c : Nat} {N : Nat → Nat → Prop} (hN : ∀ a b, N a b → N b a) (a b : Nat) (h : Ew A c N a b) : Ew A c N b a := by
  obtain ⟨h1, h2, h3⟩ := h
  refine ⟨h2, h1, ?_⟩
  rcases h3 with ⟨d, g1, g2, g3⟩ | h3
  · exact Or.inl ⟨d, g1, g2, g3.symm⟩
  · exact Or.inr (hN _ _ h3)
theorem N0_sym (a b : Nat) (h : N0 a b) : N0 b a := h
theorem N1_sym {u v : Nat} (a b : Nat) (h : N1 u v a b) : N1 u v b a := by unfold N1 at h ⊢; omega
def LO (M : Mem) (A : Tn) (c : Nat) (N : Nat → Nat → Prop) : Prop := M 85 16 = nI (msk (ob A c) (nd A)) ∧ ((M 85 17 = -1000000 ∧ N = N0) ∨ ∃ a b, a < 6 ∧ b < 6 ∧ M 85 17 = nI a ∧ M 85 18 = nI b ∧ N = N1 a b)
section FU
variable {M : Mem} {A : Tn} {c : Nat} {N : Nat → Nat → Prop}
theorem ends6 (hV : V A) {d : Nat} (hd : d < nd A) : A 1 d = nI (na A 1 d) ∧ A 2 d = nI (na A 2 d) ∧ na A 1 d < 6 ∧ na A 2 d < 6 := by
  obtain ⟨h1, h2, h3, h4, -⟩ := hV.2.1 d hd
  have := (V_nr hV).2
  exact ⟨h1, h2, by omega, by omega⟩
theorem W9_hasN {s x : Nat} {Q : Int32 → Mem → Prop} (hs : s < 64) (hx : x < 6) (q1 : s.testBit x = true → Q 1 M) (q0 : ¬ s.testBit x = true → Q 0 M) : w_X9_has M (nI s) (nI x) Q := by
  refine W9_has ?_
  by_cases h : s.testBit x = true
  · rw [bI_t ((bit6t hs hx).mpr h)]; exact q1 h
  · rw [bI_f (fun e => h ((bit6t hs hx).mp e))]; exact q0 h
theorem fur17 {s t d : Nat} {Q : Int32 → Mem → Prop} {R4 : Mem → Int32 → Int32 → Int32 → Prop} (hA : RM M 0 A) (hV : V A) (h16 : M 85 16 = nI (msk (ob A c) (nd A))) (hs : s < 64) (hd : d < nd A) (q : R4 M (nI s) (nI (if ob A c d then fstep s (na A 1 d) (na A 2 d) t else t)) (nI (d + 1))) : wL_X9_further_17 Q R4 3 M (nI s) (nI t) (nI d) 0 := by
  have hd6 := (V_nd hV).2
  obtain ⟨e1, e2, l1, l2⟩ := ends6 hV hd
  have hm : msk (ob A c) (nd A) < 64 := by
    have h1 := msk_lt (ob A c) (nd A)
    have h2 : 2 ^ nd A ≤ 2 ^ 6 := Nat.pow_le_pow_right (by decide) hd6
    omega
  have hbit : (msk (ob A c) (nd A)).testBit d = ob A c d := by
    rw [msk_bit, decide_eq_true hd, Bool.true_and]
  refine ⟨fun e => absurd e (by decide), fun _ => ?_⟩
  rw [h16]
  refine W9_hasN hm (by omega) (fun ho => br1 ?_) (fun ho => br0 (fun v6 e6 => ?_))
  · rw [hbit] at ho
    rw [if_pos ho] at q
    have step1 : ∀ t1 : Nat, t1 = (t ||| (if s.testBit (na A 1 d) then 2 ^ (na A 2 d) else 0)) → wL_X9_further_17 Q R4 2 M (nI s) (nI t1) (nI d) 1 := by
      intro t1 et
      refine ⟨fun e => absurd e (by decide), fun _ => ?_⟩
      rw [h16]
      refine W9_hasN hm (by omega) (fun _ => br1 ?_) (fun h => absurd (hbit.trans ho) h)
      refine W9_end (B := 0) (w := 1) hA (by decide) hV hd (Or.inr rfl) ?_
      rw [show A (1 + 1) d = nI (na A 2 d) from e2]
      have fin : ∀ t2 : Nat, t2 = fstep s (na A 1 d) (na A 2 d) t → wL_X9_further_17 Q R4 1 M (nI s) (nI t2) (nI d) 2 := by
        intro t2 e2
        refine ⟨fun _ v2 ev2 => ?_, fun e => absurd (by decide) e⟩
        rw [ev2, nI_1, e2]; exact q
      refine W9_hasN hs l2 (fun hb => br1 ?_) (fun hb => br0 (fun v12 e12 v13 e13 => ?_))
      · refine W9_end (B := 0) (w := 0) hA (by decide) hV hd (Or.inl rfl) (fun v16 e16 v17 e17 => ?_)
        rw [e17, e16, show A (1 + 0) d = nI (na A 1 d) from e1, or_pow l1]
        refine fin _ ?_
        unfold fstep
        rw [et, if_pos hb]
      · rw [e12, e13, Int32.or_zero]
        refine fin _ ?_
        unfold fstep
        rw [et, if_neg hb, Nat.or_zero]
    refine W9_end (B := 0) (w := 0) hA (by decide) hV hd (Or.inl rfl) ?_
    rw [show A (1 + 0) d = nI (na A 1 d) from e1]
    refine W9_hasN hs l1 (fun hb => br1 ?_) (fun hb => br0 (fun v12 e12 v13 e13 => ?_))
    · refine W9_end (B := 0) (w := 1) hA (by decide) hV hd (Or.inr rfl) (fun v16 e16 v17 e17 => ?_)
      rw [e17, e16, show A (1 + 1) d = nI (na A 2 d) from e2, or_pow l2]
      exact step1 _ (by rw [if_pos hb])
    · rw [e12, e13, Int32.or_zero]
      exact step1 _ (by rw [if_neg hb, Nat.or_zero])
  · rw [hbit] at ho
    rw [if_neg ho] at q
    rw [e6, nI_1]; exact q
theorem W9_further {s : Nat} {Q : Int32 → Mem → Prop} (hA : RM M 0 A) (hV : V A) (hL : LO M A c N) (hs : s < 64) (q : ∀ t, t < 64 → (∀ x, x < 6 → (t.testBit x = true ↔ s.testBit x = true ∨ ∃ y, s.testBit y = true ∧ Ew A c N y x)) → Q (nI t) M) : w_X9_further M (nI s) Q := by
  have hd6 := (V_nd hV).2
  have e2 : M 86 2 = nI (nd A) := (RM0 hA (j := 2) (by decide)).trans (V_nd hV).1
  obtain ⟨h16, hN⟩ := hL
  have go : ∀ m i : Nat, i + m = nd A → ∀ t, t < 64 → (∀ x, x < 6 → (t.testBit x = true ↔ s.testBit x = true ∨ ∃ y, y < 6 ∧ s.testBit y = true ∧ ∃ d, d < i ∧ Op A c d allA ∧ ((na A 1 d = y ∧ na A 2 d = x) ∨ (na A 1 d = x ∧ na A 2 d = y)))) → wL_X9_further_4 Q (m + 1) M (nI s) (nI t) (nI i) := by
    intro m
    induction m with
    | zero =>
      intro i hi t ht hb
      have hi : i = nd A := by omega
      subst hi
      refine ⟨fun _ => ?_, fun e => absurd (by rw [e2]; exact nI_le (Nat.le_refl _) (by omega)) e⟩
      rcases hN with ⟨hN1, hN2⟩ | ⟨a, b, ha, hb6, k17, k18, hN2⟩
      · refine ⟨fun _ => q t ht (fun x hx => (hb x hx).trans (or_congr Iff.rfl ?_)), fun e => absurd hN1 e⟩
        rw [hN2]
        constructor
        · rintro ⟨y, h1, h2, h3⟩
          exact ⟨y, h2, h1, hx, Or.inl h3⟩
        · rintro ⟨y, h2, h1, _, h3 | h3⟩
          · exact ⟨y, h1, h2, h3⟩
          · exact absurd h3 (fun z => z)
      · rw [k17]
        refine ⟨fun e => absurd e (nI_none (by omega)), fun _ => ?_⟩
        have fin : Q (nI (fstep s a b t)) M := by
          refine q _ (fstep_lt ha hb6 ht) (fun x hx => ?_)
          rw [fstep_bit, hb x hx, hN2, or_assoc]
          refine or_congr Iff.rfl ?_
          constructor
          · rintro (⟨y, h1, h2, h3⟩ | ⟨h1, h2⟩ | ⟨h1, h2⟩)
            · exact ⟨y, h2, h1, hx, Or.inl h3⟩
            · exact ⟨a, h1, ha, hx, Or.inr (Or.inl ⟨rfl, h2⟩)⟩
            · exact ⟨b, h1, hb6, hx, Or.inr (Or.inr ⟨rfl, h2⟩)⟩
          · rintro ⟨y, h2, h1, _, h3 | h3 | h3⟩
            · exact Or.inl ⟨y, h1, h2, h3⟩
            · exact Or.inr (Or.inl ⟨h3.1 ▸ h2, h3.2⟩)
            · exact Or.inr (Or.inr ⟨h3.1 ▸ h2, h3.2⟩)
        have j111 : ∀ s1 : Int32, ∀ t1 : Nat, nI t ||| s1 = nI t1 → t1 = (t ||| (if s.testBit a then 2 ^ b else 0)) → wJ_X9_further_111 Q M (nI s) (nI t) s1 := by
          intro s1 t1 h1 h2
          unfold wJ_X9_further_111
          intro v1 ev
          rw [k18]
          rw [h1] at ev
          unfold fstep at fin
          refine W9_hasN hs hb6 (fun hbit => br1 (fun v6 e6 => ?_)) (fun hbit => br0 (fun v5 e5 => ?_))
          · rw [e6, ev, k17, or_pow ha, h2]
            rw [if_pos hbit] at fin
            exact fin
          · rw [e5, ev, Int32.or_zero, h2]
            rw [if_neg hbit, Nat.or_zero] at fin
            exact fin
        refine W9_hasN hs ha (fun hbit => br1 ?_) (fun hbit => br0 ?_)
        · rw [k18]
          exact j111 _ _ (or_pow hb6) (by rw [if_pos hbit])
        · exact j111 _ t (by rw [Int32.or_zero]) (by rw [if_neg hbit, Nat.or_zero])
    | succ m ih =>
      intro i hi t ht hb
      refine ⟨fun e => absurd e (by rw [e2]; exact nI_ge (by omega) (by omega)), fun _ => ⟨3, fur17 hA hV h16 hs (show i < nd A by omega) ?_⟩⟩
      obtain ⟨-, -, l1, l2⟩ := ends6 hV (show i < nd A by omega)
      refine ih (i + 1) (by omega) _ ?_ (fun x hx => ?_)
      · split
        · exact fstep_lt l1 l2 ht
        · exact ht
      · by_cases ho : ob A c i = true
        · rw [if_pos ho, fstep_bit, hb x hx, or_assoc]
          refine or_congr Iff.rfl ?_
          constructor
          · rintro (⟨y, h1, h2, d, h3, h4⟩ | ⟨h1, h2⟩ | ⟨h1, h2⟩)
            · exact ⟨y, h1, h2, d, by omega, h4⟩
            · exact ⟨_, l1, h1, i, by omega, cb_t.mp ho, Or.inl ⟨rfl, h2.symm⟩⟩
            · exact ⟨_, l2, h1, i, by omega, cb_t.mp ho, Or.inr ⟨h2.symm, rfl⟩⟩
          · rintro ⟨y, h1, h2, d, h3, h4, h5⟩
            by_cases e : d = i
            · subst e
              rcases h5 with ⟨h5, h6⟩ | ⟨h5, h6⟩
              · exact Or.inr (Or.inl ⟨by rw [h5]; exact h2, h6.symm⟩)
              · exact Or.inr (Or.inr ⟨by rw [h6]; exact h2, h5.symm⟩)
            · exact Or.inl ⟨y, h1, h2, d, by omega, h4, h5⟩
        · rw [if_neg ho, hb x hx]
          refine or_congr Iff.rfl ⟨fun ⟨y, h1, h2, d, h3, h4⟩ => ⟨y, h1, h2, d, by omega, h4⟩, fun ⟨y, h1, h2, d, h3, h4, h5⟩ => ?_⟩
          have : d ≠ i := fun e => ho (cb_t.mpr (e ▸ h4))
          exact ⟨y, h1, h2, d, by omega, h4, h5⟩
  refine ⟨nd A + 1, go (nd A) 0 (by omega) s hs (fun x hx => ?_)⟩
  exact ⟨fun h => Or.inl h, fun h => h.elim id (fun ⟨y, _, _, d, hd, _⟩ => absurd hd (by omega))⟩
/-- one step further -/
theorem fur_D {s t r n : Nat} (hr : r < 6) (hb : ∀ x, x < 6 → (s.testBit x = true ↔ Dn (Ew A c N) n r x)) (ht : ∀ x, x < 6 → (t.testBit x = true ↔ s.testBit x = true ∨ ∃ y, s.testBit y = true ∧ Ew A c N y x)) : ∀ x, x < 6 → (t.testBit x = true ↔ Dn (Ew A c N) (n + 1) r x) := by
  intro x hx
  rw [ht x hx, Dn_s, hb x hx]
  refine or_congr Iff.rfl ⟨fun ⟨y, h1, h2⟩ => ⟨y, (hb y h2.1).mp h1, h2⟩, fun ⟨y, h1, h2⟩ => ⟨y, (hb y h2.1).mpr h1, h2⟩⟩
theorem bit_0 {r : Nat} (hr : r < 6) : 2 ^ r < 64 ∧ ∀ x, x < 6 → ((2 ^ r).testBit x = true ↔ Dn (Ew A c N) 0 r x) := by
  refine ⟨show 2 ^ r < 2 ^ 6 from Nat.pow_lt_pow_right (by decide) hr, fun x hx => ?_⟩
  rw [Nat.testBit_two_pow, decide_eq_true_iff, Dn_0]
theorem W9_far {r x : Nat} {Q : Int32 → Mem → Prop} (hA : RM M 0 A) (hV : V A) (hL : LO M A c N) (hr : r < 6) (hx : x < 6) (q : Q (fd (Ew A c N) r x) M) : w_X9_farFrom M (nI r) (nI x) Q := by
  have go : ∀ m n : Nat, n + m = 7 → ∀ s, s < 64 → (∀ y, y < 6 → (s.testBit y = true ↔ Dn (Ew A c N) n r y)) → (∀ k, k < n → ¬ Dn (Ew A c N) k r x) → wL_X9_farFrom_7 Q (m + 1) M (nI x) (nI s) (nI n) := by
    intro m
    induction m with
    | zero =>
      intro n hn s hs hb hf
      have hn : n = 7 := by omega
      subst hn
      refine ⟨fun _ => ?_, fun e => absurd (by decide) e⟩
      rw [fd_none.mpr (hf 5 (by decide))] at q
      exact q
    | succ m ih =>
      intro n hn s hs hb hf
      refine ⟨fun e => absurd e (nI_ge (a := n) (b := 7) (by omega) (by decide)), fun _ => ?_⟩
      refine W9_hasN hs hx (fun h => br1 ?_) (fun h => br0 (W9_further hA hV hL hs (fun t ht htb v7 e7 => ?_)))
      · have hD := (hb x hx).mp h
        have hn5 : n ≤ 5 := by
          refine Classical.byContradiction (fun hc => ?_)
          have : n = 6 := by omega
          subst this
          exact hf 5 (by decide) (Dn_stab Ew_lt hr hD)
        rw [← fd_eq (Or.inl ⟨n, hn5, rfl, hD, hf⟩)] at q
        exact q
      · rw [e7, nI_1]
        refine ih (n + 1) (by omega) t ht (fur_D hr hb htb) (fun k hk hD => ?_)
        by_cases e : k = n
        · subst e
          exact h ((hb x hx).mpr hD)
        · exact hf k (by omega) hD
  unfold w_X9_farFrom
  intro v1 e1
  rw [e1, shl6 r hr]
  exact ⟨8, go 7 0 (by omega) _ (bit_0 (A := A) (c := c) (N := N) hr).1 (bit_0 hr).2 (fun k hk => absurd hk (by omega))⟩
theorem W9_reachN {r : Nat} {Q : Int32 → Mem → Prop} (hA : RM M 0 A) (hV : V A) (hL : LO M A c N) (hr : r < 6) (q : Q (nI (msk (fun x => cb (Dn (Ew A c N) 5 r x)) 6)) M) : ∃ n6 : Nat, wL_X9_reachOf_19 Q n6 M (nI (2 ^ r)) 0 := by
  have go : ∀ m n : Nat, n + m = 6 → ∀ s, s < 64 → (∀ y, y < 6 → (s.testBit y = true ↔ Dn (Ew A c N) n r y)) → wL_X9_reachOf_19 Q (m + 1) M (nI s) (nI n) := by
    intro m
    induction m with
    | zero =>
      intro n hn s hs hb
      have hn : n = 6 := by omega
      subst hn
      refine ⟨fun _ => ?_, fun e => absurd (by decide) e⟩
      have : s = msk (fun x => cb (Dn (Ew A c N) 5 r x)) 6 := by
        refine bits_eq hs (msk_lt _ 6) (fun x hx => ?_)
        rw [hb x hx, msk_bit, decide_eq_true hx, Bool.true_and, cb_t]
        exact ⟨Dn_stab Ew_lt hr, Dn_mono (by decide)⟩
      rw [this]; exact q
    | succ m ih =>
      intro n hn s hs hb
      refine ⟨fun e => absurd e (nI_ge (a := n) (b := 6) (by omega) (by decide)), fun _ => ?_⟩
      refine W9_further hA hV hL hs (fun t ht htb v7 e7 => ?_)
      rw [e7, nI_1]
      exact ih (n + 1) (by omega) t ht (fur_D hr hb htb)
  exact ⟨7, go 6 0 (by omega) _ (bit_0 (A := A) (c := c) (N := N) hr).1 (bit_0 hr).2⟩
theorem W9_bits {s : Nat} {Q : Int32 → Mem → Prop} (hs : s < 64) (q : Q (nI (fb_ct (fun k => s.testBit k) 6)) M) : w_X9_bits M (nI s) Q := by
  have go : ∀ m i : Nat, i + m = 6 → wL_X9_bits_4 Q (m + 1) M (nI s) (nI (fb_ct (fun k => s.testBit k) i)) (nI i) := by
    intro m
    induction m with
    | zero =>
      intro i hi
      have hi : i = 6 := by omega
      subst hi
      exact ⟨fun _ => q, fun e => absurd (by decide) e⟩
    | succ m ih =>
      intro i hi
      refine ⟨fun e => absurd e (nI_ge (a := i) (b := 6) (by omega) (by decide)), fun _ v2 e2 v3 e3 => ?_⟩
      have h := ih (i + 1) (by omega)
      rw [fb_ct_succ] at h
      rw [show (nI s >>> (nI i &&& 31)) &&& 1 = bitv (nI s) i from rfl] at e2
      rw [e3, nI_1, e2]
      by_cases hb : s.testBit i = true
      · rw [(bitv1 _ _).mpr ((bit6t hs (by omega)).mpr hb), nI_1]
        rw [if_pos hb] at h
        exact h
      · have hz : bitv (nI s) i = 0 := Classical.byContradiction (fun hc => hb ((bit6t hs (by omega)).mp hc))
        rw [hz, Int32.add_zero]
        rw [if_neg hb] at h
        exact h
  exact ⟨7, go 6 0 (by omega)⟩
end FU
theorem one_bit : ∀ m, m < 64 → ∀ r, r < 6 → m.testBit r = true → (m = 2 ^ r ↔ fb_ct (fun k => m.testBit k) 6 = 1) := by decide +kernel
