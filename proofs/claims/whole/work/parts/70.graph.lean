/-! walks among ROOMS -/
def Wk (E : Nat → Nat → Prop) : Nat → Nat → Nat → Prop
  | 0, r, x => r = x
  | n + 1, r, x => ∃ y, Wk E n r y ∧ E y x
theorem Wk_front {E : Nat → Nat → Prop} {r : Nat} : ∀ (n x : Nat), Wk E (n + 1) r x ↔ ∃ y, E r y ∧ Wk E n y x
  | 0, x => ⟨fun ⟨y, h1, h2⟩ => ⟨x, by have h1 : r = y := h1; rw [h1]; exact h2, rfl⟩, fun ⟨y, h1, h2⟩ => ⟨r, rfl, by have h2 : y = x := h2; rw [← h2]; exact h1⟩⟩
  | n + 1, x => by
    constructor
    · rintro ⟨y, h1, h2⟩
      obtain ⟨z, g1, g2⟩ := (Wk_front n y).mp h1
      exact ⟨z, g1, y, g2, h2⟩
    · rintro ⟨z, h1, y, g1, g2⟩
      exact ⟨y, (Wk_front n y).mpr ⟨z, h1, g1⟩, g2⟩
theorem Wk_sym {E : Nat → Nat → Prop} (hs : ∀ a b, E a b → E b a) {r : Nat} : ∀ (n x : Nat), Wk E n r x → Wk E n x r
  | 0, x, h => Eq.symm h
  | n + 1, x, ⟨y, h1, h2⟩ => (Wk_front n r).mpr ⟨y, hs _ _ h2, Wk_sym hs n y h1⟩
def Dn (E : Nat → Nat → Prop) (n r x : Nat) : Prop := ∃ m, m ≤ n ∧ Wk E m r x
theorem Dn_0 {E : Nat → Nat → Prop} {r x : Nat} : Dn E 0 r x ↔ r = x := by
  constructor
  · rintro ⟨m, h1, h2⟩
    have : m = 0 := by omega
    subst this
    exact h2
  · intro h
    exact ⟨0, Nat.le_refl _, h⟩
theorem Dn_s {E : Nat → Nat → Prop} {n r x : Nat} : Dn E (n + 1) r x ↔ Dn E n r x ∨ ∃ y, Dn E n r y ∧ E y x := by
  constructor
  · rintro ⟨m, h1, h2⟩
    by_cases e : m ≤ n
    · exact Or.inl ⟨m, e, h2⟩
    · have : m = n + 1 := by omega
      subst this
      obtain ⟨y, g1, g2⟩ := h2
      exact Or.inr ⟨y, ⟨n, Nat.le_refl _, g1⟩, g2⟩
  · rintro (⟨m, h1, h2⟩ | ⟨y, ⟨m, h1, h2⟩, h3⟩)
    · exact ⟨m, by omega, h2⟩
    · exact ⟨m + 1, by omega, y, h2, h3⟩
theorem Dn_mono {E : Nat → Nat → Prop} {n m r x : Nat} (h : n ≤ m) : Dn E n r x → Dn E m r x := fun ⟨k, h1, h2⟩ => ⟨k, by omega, h2⟩
theorem Dn_sym {E : Nat → Nat → Prop} (hs : ∀ a b, E a b → E b a) {n r x : Nat} : Dn E n r x ↔ Dn E n x r := ⟨fun ⟨k, h1, h2⟩ => ⟨k, h1, Wk_sym hs k x h2⟩, fun ⟨k, h1, h2⟩ => ⟨k, h1, Wk_sym hs k r h2⟩⟩
theorem Dn_lt {E : Nat → Nat → Prop} (hb : ∀ a b, E a b → a < 6 ∧ b < 6) {n r x : Nat} (hr : r < 6) (h : Dn E n r x) : x < 6 := by
  obtain ⟨m, h1, h2⟩ := h
  cases m with
  | zero => have h2 : r = x := h2; omega
  | succ m => obtain ⟨y, g1, g2⟩ := h2; exact (hb _ _ g2).2
theorem Dn_step {E : Nat → Nat → Prop} {n r : Nat} (h : ∀ x, Dn E (n + 1) r x → Dn E n r x) : ∀ j x, Dn E (n + j) r x → Dn E n r x
  | 0, x, hx => hx
  | j + 1, x, hx => by
    rcases (Dn_s (n := n + j)).mp hx with g | ⟨y, g1, g2⟩
    · exact Dn_step h j x g
    · exact h x (Dn_s.mpr (Or.inr ⟨y, Dn_step h j y g1, g2⟩))
noncomputable def cb (p : Prop) : Bool := @decide p (Classical.propDecidable p)
theorem cb_t {p : Prop} : cb p = true ↔ p := @decide_eq_true_iff p (Classical.propDecidable p)
theorem ct_grow {p q : Nat → Bool} {n x : Nat} (hx : x < n) (h1 : p x = false) (h2 : q x = true) (hs : ∀ k, k < n → p k = true → q k = true) : fb_ct p n + 1 ≤ fb_ct q n := by
  have h := fb_ct_upd p true hx
  rw [h1] at h
  simp only [Bool.false_eq_true, if_false, if_true, Nat.add_zero] at h
  rw [← h]
  refine fb_ct_sub (fun k hk hp => ?_)
  by_cases e : k = x
  · rw [e]; exact h2
  · simp only [e, if_false] at hp
    exact hs k hk hp
theorem Dn_stab {E : Nat → Nat → Prop} (hb : ∀ a b, E a b → a < 6 ∧ b < 6) {r x : Nat} (hr : r < 6) (h : Dn E 6 r x) : Dn E 5 r x := by
  by_cases hst : ∃ n, n ≤ 5 ∧ ∀ x, Dn E (n + 1) r x → Dn E n r x
  · obtain ⟨n, h1, h2⟩ := hst
    have := Dn_step h2 (6 - n) x (by rw [show n + (6 - n) = 6 by omega]; exact h)
    exact Dn_mono h1 this
  · exfalso
    have grow : ∀ n, n ≤ 6 → n + 1 ≤ fb_ct (fun x => cb (Dn E n r x)) 6 := by
      intro n
      induction n with
      | zero =>
        intro _
        refine fb_ct_pos.mpr ⟨r, hr, cb_t.mpr (Dn_0.mpr rfl)⟩
      | succ n ih =>
        intro hn
        have := ih (by omega)
        have hex : ∃ y, Dn E (n + 1) r y ∧ ¬ Dn E n r y := by
          refine Classical.byContradiction (fun hc => hst ⟨n, by omega, fun y hy => Classical.byContradiction (fun hy2 => hc ⟨y, hy, hy2⟩)⟩)
        obtain ⟨y, y1, y2⟩ := hex
        have g := ct_grow (p := fun x => cb (Dn E n r x)) (q := fun x => cb (Dn E (n + 1) r x)) (n := 6) (x := y) (Dn_lt hb hr y1) (by
          cases e : cb (Dn E n r y) with
          | false => rfl
          | true => exact absurd (cb_t.mp e) y2) (cb_t.mpr y1) (fun k _ hk => cb_t.mpr (Dn_mono (Nat.le_succ n) (cb_t.mp hk)))
        omega
    have h1 := grow 6 (Nat.le_refl _)
    have h2 := fb_ct_le (fun x => cb (Dn E 6 r x)) 6
    omega
/-- v tells how far x is from r -/
def FarIs (E : Nat → Nat → Prop) (r x : Nat) (v : Int32) : Prop := (∃ n, n ≤ 5 ∧ v = nI n ∧ Dn E n r x ∧ ∀ m, m < n → ¬ Dn E m r x) ∨ (v = -1000000 ∧ ¬ Dn E 5 r x)
theorem Far_sym {E : Nat → Nat → Prop} (hs : ∀ a b, E a b → E b a) {r x : Nat} {v : Int32} (h : FarIs E r x v) : FarIs E x r v := by
  rcases h with ⟨n, h1, h2, h3, h4⟩ | ⟨h1, h2⟩
  · exact Or.inl ⟨n, h1, h2, (Dn_sym hs).mp h3, fun m hm hd => h4 m hm ((Dn_sym hs).mp hd)⟩
  · exact Or.inr ⟨h1, fun hd => h2 ((Dn_sym hs).mp hd)⟩
theorem Far_one {E : Nat → Nat → Prop} {r x : Nat} {v w : Int32} (h : FarIs E r x v) (g : FarIs E r x w) : v = w := by
  rcases h with ⟨n, h1, h2, h3, h4⟩ | ⟨h1, h2⟩
  · rcases g with ⟨m, g1, g2, g3, g4⟩ | ⟨g1, g2⟩
    · have : n = m := by
        rcases Nat.lt_trichotomy n m with z | z | z
        · exact absurd h3 (g4 n z)
        · exact z
        · exact absurd g3 (h4 m z)
      rw [h2, g2, this]
    · exact absurd (Dn_mono h1 h3) g2
  · rcases g with ⟨m, g1, g2, g3, g4⟩ | ⟨g1, g2⟩
    · exact absurd (Dn_mono g1 g3) h2
    · rw [h1, g1]
theorem Far_ex (E : Nat → Nat → Prop) (r x : Nat) : ∃ v, FarIs E r x v := by
  by_cases h : Dn E 5 r x
  · obtain ⟨n, hn, h1, h2⟩ := @fb_first (fun n => Dn E n r x) (fun _ => Classical.propDecidable _) 6 ⟨5, by decide, h⟩
    exact ⟨nI n, Or.inl ⟨n, by omega, rfl, h1, h2⟩⟩
  · exact ⟨_, Or.inr ⟨rfl, h⟩⟩
noncomputable def fd (E : Nat → Nat → Prop) (r x : Nat) : Int32 := Classical.choose (Far_ex E r x)
theorem fd_is (E : Nat → Nat → Prop) (r x : Nat) : FarIs E r x (fd E r x) := Classical.choose_spec (Far_ex E r x)
theorem fd_eq {E : Nat → Nat → Prop} {r x : Nat} {v : Int32} (h : FarIs E r x v) : v = fd E r x := Far_one h (fd_is E r x)
theorem fd_rng (E : Nat → Nat → Prop) (r x : Nat) : (∃ n, n ≤ 5 ∧ fd E r x = nI n) ∨ fd E r x = -1000000 := by
  rcases fd_is E r x with ⟨n, h1, h2, -⟩ | ⟨h1, -⟩
  · exact Or.inl ⟨n, h1, h2⟩
  · exact Or.inr h1
theorem fd_none {E : Nat → Nat → Prop} {r x : Nat} : fd E r x = -1000000 ↔ ¬ Dn E 5 r x := by
  rcases fd_is E r x with ⟨n, h1, h2, h3, -⟩ | ⟨h1, h2⟩
  · rw [h2]
    exact ⟨fun e => absurd e (nI_none (by omega)), fun e => absurd (Dn_mono h1 h3) e⟩
  · exact ⟨fun _ => h2, fun _ => h1⟩
theorem fd_sym {E : Nat → Nat → Prop} (hs : ∀ a b, E a b → E b a) (r x : Nat) : fd E r x = fd E x r := fd_eq (Far_sym hs (fd_is E r x))
