/-! a new DOOR -/
noncomputable def stp (v pr : Int32) (st : Int32 × Int32) : Int32 × Int32 := if v = -1000000 then st else if st.2 = -1000000 ∨ ¬ st.2 ≤ v then (pr, v) else st
noncomputable def inn (g : Nat → Nat → Int32) (a : Nat) : Nat → Nat → Int32 × Int32 → Int32 × Int32
  | 0, _, st => st
  | t + 1, b, st => inn g a t (b + 1) (stp (g a b) (nI (10 * a + b)) st)
noncomputable def out (g : Nat → Nat → Int32) (n : Nat) : Nat → Nat → Int32 × Int32 → Int32 × Int32
  | 0, _, st => st
  | t + 1, a, st => out g n t (a + 1) (inn g a (n - (a + 1)) (a + 1) st)
section ND
variable {M : Mem} {A : Tn} {c rm : Nat}
theorem W7_farWith {a b own : Nat} {Q : Int32 → Mem → Prop} (hV : V A) (hT : TKi M A c (nd A)) (ha : a < 6) (hb : b < 6) (hr : rm < 6) (ho : own < 6) (q : ∀ M2, Fr SW M M2 → TKi M2 A c (nd A) → Q (fd (Ew A c (N1 a b)) rm own) M2) : w_X7_farWith M (nI a) (nI b) (nI rm) (nI own) Q := by
  have hd6 := (V_nd hV).2
  have hle : oc A c (nd A) ≤ nd A := fb_ct_le _ _
  obtain ⟨h7, h32, hL1, hL2⟩ := EL_take hV hT
  unfold w_X7_farWith
  refine W7_add (by omega) hT.1 ?_
  generalize e1 : ms (ms (ms (ms M 33 (oc A c (nd A)) (nI a)) 34 (oc A c (nd A)) (nI b)) 35 (oc A c (nd A)) (-1000000)) 32 4 (nI (oc A c (nd A) + 1)) = M1
  have k32 : M1 32 4 = nI (oc A c (nd A) + 1) := by rw [← e1, ms_eq]
  have k33 : ∀ k, k < oc A c (nd A) → M1 33 k = M 33 k ∧ M1 34 k = M 34 k ∧ M1 35 k = M 35 k := by
    intro k hk
    rw [← e1]
    exact ⟨by rw [ms_ne (by decide), ms_ne (by decide), ms_ne (by decide), ms_ne2 (by omega)], by rw [ms_ne (by decide), ms_ne (by decide), ms_ne2 (by omega), ms_ne (by decide)], by rw [ms_ne (by decide), ms_ne2 (by omega), ms_ne (by decide), ms_ne (by decide)]⟩
  have kn : M1 33 (oc A c (nd A)) = nI a ∧ M1 34 (oc A c (nd A)) = nI b := by
    rw [← e1]
    exact ⟨by rw [ms_ne (by decide), ms_ne (by decide), ms_ne (by decide), ms_eq], by rw [ms_ne (by decide), ms_ne (by decide), ms_eq]⟩
  have hF1 : Fr SW M M1 := by
    rw [← e1]
    exact Fr_ms (Fr_ms (Fr_ms (Fr_ms (Fr_rf _ _) _ (by unfold SW; omega)) _ (by unfold SW; omega)) _ (by unfold SW; omega)) _ (by unfold SW; omega)
  have hEL : EL M1 (oc A c (nd A) + 1) (Ew A c (N1 a b)) := by
    refine ⟨by omega, k32, fun k hk => ?_, fun y x hE => ?_⟩
    · by_cases e : k = oc A c (nd A)
      · subst e
        exact ⟨a, b, ha, hb, kn.1, kn.2, ha, hb, Or.inr (Or.inl ⟨rfl, rfl⟩)⟩
      · obtain ⟨u, v, h1, h2, h3, h4, h5⟩ := hL1 k (by omega)
        obtain ⟨g1, g2, -⟩ := k33 k (by omega)
        refine ⟨u, v, h1, h2, g1.trans h3, g2.trans h4, h5.1, h5.2.1, ?_⟩
        rcases h5.2.2 with z | z
        · exact Or.inl z
        · exact absurd z (fun z => z)
    · obtain ⟨h1, h2, h3 | h3⟩ := hE
      · obtain ⟨k, hk, hh⟩ := hL2 y x ⟨h1, h2, Or.inl h3⟩
        obtain ⟨g1, g2, -⟩ := k33 k hk
        refine ⟨k, by omega, ?_⟩
        rw [g1, g2]; exact hh
      · refine ⟨oc A c (nd A), by omega, ?_⟩
        rw [kn.1, kn.2]
        rcases h3 with ⟨z1, z2⟩ | ⟨z1, z2⟩
        · exact Or.inl ⟨by rw [z1], by rw [z2]⟩
        · exact Or.inr ⟨by rw [z2], by rw [z1]⟩
  refine W7_measure hEL (Ew_sym N1_sym) Ew_lt hr (fun M3 h36 hoth => fun v5 e5 M6 e6 => ⟨vp_in_nI ho (by decide), ?_⟩)
  rw [hoth 32 4 (by decide), k32, nI_pred] at e5
  rw [ix_nat (by omega), e6, ms_ne (by decide), h36 _ ho]
  refine q _ (Fr_ms (SW36 hF1 hoth) _ (by unfold SW; omega)) ⟨by rw [ms_eq, e5], fun d hd hop => ?_⟩
  have hl := oc_lt hd hop
  obtain ⟨g1, g2, g3⟩ := k33 _ hl
  rw [ms_ne (by decide), ms_ne (by decide), ms_ne (by decide), hoth _ _ (by decide), hoth _ _ (by decide), hoth _ _ (by decide), g1, g2, g3]
  exact hT.2 d hd hop
theorem W8_nd {x : Int32} {Q : Int32 → Mem → Prop} (hC : RC M 41 A) (hV : V A) (hc : c < np A) (hr : rm < 6) (hT : TKi M A c (nd A)) (q : ∀ M2, Fr SW M M2 → (x = 0 → Q (out (fun a b => fd (Ew A c (N1 a b)) rm (na A 4 c)) (nr A) (nr A) 0 (-1000000, -1000000)).1 M2) ∧ (¬ x = 0 → Q (out (fun a b => fd (Ew A c (N1 a b)) rm (na A 4 c)) (nr A) (nr A) 0 (-1000000, -1000000)).2 M2)) : ∃ n12 : Nat, wL_X8_newDoor_56 Q n12 M (nI c) (nI rm) x (-1000000) (-1000000) 0 := by
  have hn := (V_np hV).2
  have hr6 := (V_nr hV).2
  have c0 : M 41 0 = nI (nr A) := (hC.1 0 (by decide)).trans (V_nr hV).1
  obtain ⟨e4, l4⟩ := V_room hV hc
  have inner : ∀ (R56 : Mem → Int32 → Int32 → Int32 → Int32 → Int32 → Int32 → Prop) (a : Nat), a < nr A → ∀ t b : Nat, b + t = nr A → ∀ (M1 : Mem) (st : Int32 × Int32), Fr SW M M1 → TKi M1 A c (nd A) → (∀ M2, Fr SW M M2 → TKi M2 A c (nd A) → R56 M2 (nI c) (nI rm) x (inn (fun a b => fd (Ew A c (N1 a b)) rm (na A 4 c)) a t b st).1 (inn (fun a b => fd (Ew A c (N1 a b)) rm (na A 4 c)) a t b st).2 (nI (a + 1))) → wL_X8_newDoor_74 Q R56 (t + 1) M1 (nI c) (nI rm) x st.1 st.2 (nI a) (nI b) := by
    intro R56 a ha t
    induction t with
    | zero =>
      intro b hb M1 st hF hT hR
      have hb : b = nr A := by omega
      subst hb
      refine ⟨fun _ v2 e2 => ?_, fun e => absurd (by rw [hF 41 0 (by unfold SW; omega), c0]; exact nI_le (Nat.le_refl _) (by omega)) e⟩
      rw [e2, nI_1]
      exact hR M1 hF hT
    | succ t ih =>
      intro b hb M1 st hF hT hR
      refine ⟨fun e => absurd e (by rw [hF 41 0 (by unfold SW; omega), c0]; exact nI_ge (by omega) (by omega)), fun _ => ⟨vp_in_nI (by omega) (by decide), ?_⟩⟩
      rw [ix_nat (by omega), (RC_SW hC hF).2 4 c (rel_p (by decide) (by decide) hc), e4]
      refine W7_farWith hV hT (by omega) (by omega) hr l4 (fun M2 hF2 hT2 => ?_)
      have hF2 := Fr_tr hF hF2
      have nxt : ∀ st2, st2 = stp (fd (Ew A c (N1 a b)) rm (na A 4 c)) (nI (10 * a + b)) st → wL_X8_newDoor_74 Q R56 (t + 1) M2 (nI c) (nI rm) x st2.1 st2.2 (nI a) (nI (b + 1)) := by
        intro st2 e2
        refine ih (b + 1) (by omega) M2 st2 hF2 hT2 (fun M3 hF3 hT3 => ?_)
        rw [e2]
        exact hR M3 hF3 hT3
      have tk : ¬ fd (Ew A c (N1 a b)) rm (na A 4 c) = -1000000 → (st.2 = -1000000 ∨ ¬ st.2 ≤ fd (Ew A c (N1 a b)) rm (na A 4 c)) → wJ_X8_newDoor_132 Q R56 (wL_X8_newDoor_74 Q R56 (t + 1)) M2 (nI c) (nI rm) x (nI a) (nI b) (fd (Ew A c (N1 a b)) rm (na A 4 c)) := by
        intro z1 z2
        unfold wJ_X8_newDoor_132
        intro v1 e1 v2 e2
        rw [show 10 * nI a + nI b = nI (10 * a + b) from by rw [show (10 : Int32) = nI 10 from rfl, pk_mul, nI_add]] at e1
        rw [e2, nI_1, e1]
        exact nxt (nI (10 * a + b), fd (Ew A c (N1 a b)) rm (na A 4 c)) (by unfold stp; rw [if_neg z1, if_pos z2])
      refine ⟨fun z v7 e7 => ?_, fun z => ⟨fun z2 => tk z (Or.inl z2), fun z2 => ⟨fun z3 v10 e10 => ?_, fun z3 => tk z (Or.inr z3)⟩⟩⟩
      · rw [e7, nI_1]
        exact nxt st (by unfold stp; rw [if_pos z])
      · rw [e10, nI_1]
        exact nxt st (by unfold stp; rw [if_neg z, if_neg (fun h => h.elim z2 (fun h => h z3))])
  have outer : ∀ t a : Nat, a + t = nr A → ∀ (M1 : Mem) (st : Int32 × Int32), Fr SW M M1 → TKi M1 A c (nd A) → (∀ M2, Fr SW M M2 → (x = 0 → Q (out (fun a b => fd (Ew A c (N1 a b)) rm (na A 4 c)) (nr A) t a st).1 M2) ∧ (¬ x = 0 → Q (out (fun a b => fd (Ew A c (N1 a b)) rm (na A 4 c)) (nr A) t a st).2 M2)) → wL_X8_newDoor_56 Q (t + 1) M1 (nI c) (nI rm) x st.1 st.2 (nI a) := by
    intro t
    induction t with
    | zero =>
      intro a ha M1 st hF hT hR
      have ha : a = nr A := by omega
      subst ha
      exact ⟨fun _ => ⟨fun z => (hR M1 hF).2 z, fun z => (hR M1 hF).1 z⟩, fun e => absurd (by rw [hF 41 0 (by unfold SW; omega), c0]; exact nI_le (Nat.le_refl _) (by omega)) e⟩
    | succ t ih =>
      intro a ha M1 st hF hT hR
      refine ⟨fun e => absurd e (by rw [hF 41 0 (by unfold SW; omega), c0]; exact nI_ge (by omega) (by omega)), fun _ v3 e3 => ⟨nr A - (a + 1) + 1, ?_⟩⟩
      rw [e3, nI_1]
      exact inner _ a (by omega) (nr A - (a + 1)) (a + 1) (by omega) M1 st hF hT (fun M2 hF2 hT2 => ih (a + 1) (by omega) M2 _ hF2 hT2 hR)
  exact ⟨nr A + 1, outer (nr A) 0 (by omega) M (-1000000, -1000000) (Fr_rf _ _) hT q⟩
/-- how the reference's numbers stand to the class's -/
def NDr (st : Int32 × Int32) (y4 y5 : Int32) : Prop := (st = (-1000000, -1000000) ∧ y4 = -1000000 ∧ y5 = 99) ∨ ∃ p f : Nat, p < 100 ∧ f ≤ 5 ∧ st = (nI p, nI f) ∧ y4 = nI p ∧ y5 = nI f
theorem ndr_step {st : Int32 × Int32} {y4 y5 v : Int32} {pr : Nat} (h : NDr st y4 y5) (hp : pr < 100) (hv : (∃ n, n ≤ 5 ∧ v = nI n) ∨ v = -1000000) : (v = -1000000 ∨ y5 ≤ v → NDr (stp v (nI pr) st) y4 y5) ∧ (¬ v = -1000000 → ¬ y5 ≤ v → NDr (stp v (nI pr) st) (nI pr) v) := by
  unfold stp
  rcases hv with ⟨n, hn, e⟩ | e
  · have hz : ¬ v = -1000000 := by rw [e]; exact nI_none (by omega)
    rw [if_neg hz]
    rcases h with ⟨h1, h2, h3⟩ | ⟨p, f, h1, h2, h3, h4, h5⟩
    · rw [h1, if_pos (Or.inl rfl)]
      refine ⟨fun z => ?_, fun _ _ => Or.inr ⟨pr, n, hp, hn, by rw [e], rfl, e⟩⟩
      rcases z with z | z
      · exact absurd z hz
      · rw [h3, e] at z
        have := (nI_leI (a := 99) (b := n) (by decide) (by omega)).mp z
        omega
    · rw [h3]
      by_cases hle : f ≤ n
      · rw [if_neg]
        · refine ⟨fun _ => Or.inr ⟨p, f, h1, h2, rfl, h4, h5⟩, fun _ z => absurd ?_ z⟩
          rw [h5, e]; exact (nI_leI (by omega) (by omega)).mpr hle
        · rintro (z | z)
          · exact absurd z (nI_none (by omega))
          · exact z (by rw [e]; exact (nI_leI (by omega) (by omega)).mpr hle)
      · rw [if_pos (Or.inr (fun z => hle ((nI_leI (by omega) (by omega)).mp (e ▸ z))))]
        refine ⟨fun z => ?_, fun _ _ => Or.inr ⟨pr, n, hp, hn, by rw [e], rfl, e⟩⟩
        rcases z with z | z
        · exact absurd z hz
        · rw [h5, e] at z
          exact absurd ((nI_leI (by omega) (by omega)).mp z) hle
  · rw [if_pos e]
    exact ⟨fun _ => h, fun z => absurd e z⟩
theorem W9_nd {x : Int32} {Q : Int32 → Mem → Prop} (hM : RM M 0 A) (hV : V A) (hc : c < np A) (hr : rm < 6) (h16 : M 85 16 = nI (msk (ob A c) (nd A))) (q : ∀ M2, Fr S85 M M2 → (x = 0 → Q (out (fun a b => fd (Ew A c (N1 a b)) rm (na A 4 c)) (nr A) (nr A) 0 (-1000000, -1000000)).1 M2) ∧ (¬ x = 0 → Q (out (fun a b => fd (Ew A c (N1 a b)) rm (na A 4 c)) (nr A) (nr A) 0 (-1000000, -1000000)).2 M2)) : ∃ n12 : Nat, wL_X9_newDoor_45 Q n12 M (nI c) (nI rm) x (-1000000) 99 0 := by
  have hn := (V_np hV).2
  have hr6 := (V_nr hV).2
  have c0 : M 86 0 = nI (nr A) := (RM0 hM (j := 0) (by decide)).trans (V_nr hV).1
  obtain ⟨e4, l4⟩ := V_room hV hc
  have inner : ∀ (R45 : Mem → Int32 → Int32 → Int32 → Int32 → Int32 → Int32 → Prop) (a : Nat), a < nr A → ∀ t b : Nat, b + t = nr A → ∀ (M1 : Mem) (st : Int32 × Int32) (y4 y5 : Int32), NDr st y4 y5 → Fr S85 M M1 → M1 85 16 = nI (msk (ob A c) (nd A)) → (∀ M2 z4 z5, NDr (inn (fun a b => fd (Ew A c (N1 a b)) rm (na A 4 c)) a t b st) z4 z5 → Fr S85 M M2 → M2 85 16 = nI (msk (ob A c) (nd A)) → R45 M2 (nI c) (nI rm) x z4 z5 (nI (a + 1))) → wL_X9_newDoor_62 Q R45 (t + 1) M1 (nI c) (nI rm) x y4 y5 (nI a) (nI b) := by
    intro R45 a ha t
    induction t with
    | zero =>
      intro b hb M1 st y4 y5 hst hF hT hR
      have hb : b = nr A := by omega
      subst hb
      refine ⟨fun _ v2 e2 => ?_, fun e => absurd (by rw [hF 86 0 (by unfold S85; omega), c0]; exact nI_le (Nat.le_refl _) (by omega)) e⟩
      rw [e2, nI_1]
      exact hR M1 _ _ hst hF hT
    | succ t ih =>
      intro b hb M1 st y4 y5 hst hF hT hR
      refine ⟨fun e => absurd e (by rw [hF 86 0 (by unfold S85; omega), c0]; exact nI_ge (by omega) (by omega)), fun _ M3 e3 M4 e4' => ?_⟩
      have hF4 : Fr S85 M M4 := by rw [e4', e3]; exact Fr_ms (Fr_ms hF _ (by unfold S85; omega)) _ (by unfold S85; omega)
      have hT4 : M4 85 16 = nI (msk (ob A c) (nd A)) := by rw [e4', ms_ne2 (by decide), e3, ms_ne2 (by decide), hT]
      have hL4 : LO M4 A c (N1 a b) := ⟨hT4, Or.inr ⟨a, b, by omega, by omega, by rw [e4', ms_ne2 (by decide), e3, ms_eq], by rw [e4', ms_eq], rfl⟩⟩
      have hM4 := RM_S85 hM hV hF4
      have k4 : M4 86 (24 + c) = A 4 c := RM0p hM4 hc (f := 4) (by decide) (by decide)
      rw [show 24 + nI c = nI (24 + c) from lin2 24 c]
      intro v5 e5
      rw [e5, ix_nat (by omega), k4, e4]
      refine ⟨vp_in_nI (by omega) (by decide), W9_far hM4 hV hL4 l4 hr ?_⟩
      rw [fd_sym (Ew_sym N1_sym) (na A 4 c) rm]
      have hs := ndr_step (pr := 10 * a + b) hst (by omega) (fd_rng (Ew A c (N1 a b)) rm (na A 4 c))
      have nxt : ∀ z4 z5, NDr (stp (fd (Ew A c (N1 a b)) rm (na A 4 c)) (nI (10 * a + b)) st) z4 z5 → wL_X9_newDoor_62 Q R45 (t + 1) M4 (nI c) (nI rm) x z4 z5 (nI a) (nI (b + 1)) := by
        intro z4 z5 hz
        exact ih (b + 1) (by omega) M4 _ z4 z5 hz hF4 hT4 hR
      have no : (fd (Ew A c (N1 a b)) rm (na A 4 c) = -1000000 ∨ y5 ≤ fd (Ew A c (N1 a b)) rm (na A 4 c)) → wJ_X9_newDoor_119 Q R45 (wL_X9_newDoor_62 Q R45 (t + 1)) M4 (nI c) (nI rm) x y4 y5 (nI a) (nI b) (fd (Ew A c (N1 a b)) rm (na A 4 c)) := by
        intro z
        unfold wJ_X9_newDoor_119 wJ_X9_newDoor_120 wJ_X9_newDoor_140
        refine ⟨fun _ => ⟨fun _ v2 e2 => ?_, fun e => absurd rfl e⟩, fun e => absurd rfl e⟩
        rw [e2, nI_1]
        exact nxt _ _ (hs.1 z)
      refine ⟨fun z => no (Or.inl z), fun z => ⟨fun z2 => no (Or.inr z2), fun z2 => ?_⟩⟩
      unfold wJ_X9_newDoor_120 wJ_X9_newDoor_140
      refine ⟨fun e => absurd e (by decide), fun _ => ⟨fun e => absurd e (by decide), fun _ v3 e3 => ?_⟩⟩
      rw [e3, nI_1, show 10 * nI a + nI b = nI (10 * a + b) from by rw [show (10 : Int32) = nI 10 from rfl, pk_mul, nI_add]]
      exact nxt _ _ (hs.2 z z2)
  have outer : ∀ t a : Nat, a + t = nr A → ∀ (M1 : Mem) (st : Int32 × Int32) (y4 y5 : Int32), NDr st y4 y5 → Fr S85 M M1 → M1 85 16 = nI (msk (ob A c) (nd A)) → (∀ M2, Fr S85 M M2 → (x = 0 → Q (out (fun a b => fd (Ew A c (N1 a b)) rm (na A 4 c)) (nr A) t a st).1 M2) ∧ (¬ x = 0 → Q (out (fun a b => fd (Ew A c (N1 a b)) rm (na A 4 c)) (nr A) t a st).2 M2)) → wL_X9_newDoor_45 Q (t + 1) M1 (nI c) (nI rm) x y4 y5 (nI a) := by
    intro t
    induction t with
    | zero =>
      intro a ha M1 st y4 y5 hst hF hT hR
      have ha : a = nr A := by omega
      subst ha
      refine ⟨fun _ => ?_, fun e => absurd (by rw [hF 86 0 (by unfold S85; omega), c0]; exact nI_le (Nat.le_refl _) (by omega)) e⟩
      have hR1 : (x = 0 → Q st.1 M1) ∧ (¬ x = 0 → Q st.2 M1) := hR M1 hF
      rcases hst with ⟨h1, h2, h3⟩ | ⟨p, f, h1, h2, h3, h4, h5⟩
      · refine ⟨fun _ => ?_, fun z => absurd h2 z⟩
        rw [h1] at hR1
        rw [h2]
        by_cases z : x = 0
        · exact hR1.1 z
        · exact hR1.2 z
      · rw [h3] at hR1
        rw [h4, h5]
        exact ⟨fun z => absurd z (nI_none (by omega)), fun _ => ⟨fun z => hR1.2 z, fun z => hR1.1 z⟩⟩
    | succ t ih =>
      intro a ha M1 st y4 y5 hst hF hT hR
      refine ⟨fun e => absurd e (by rw [hF 86 0 (by unfold S85; omega), c0]; exact nI_ge (by omega) (by omega)), fun _ v3 e3 => ⟨nr A - (a + 1) + 1, ?_⟩⟩
      rw [e3, nI_1]
      exact inner _ a (by omega) (nr A - (a + 1)) (a + 1) (by omega) M1 st y4 y5 hst hF hT (fun M2 z4 z5 hz hF2 hT2 => ih (a + 1) (by omega) M2 _ z4 z5 hz hF2 hT2 hR)
  exact ⟨nr A + 1, outer (nr A) 0 (by omega) M (-1000000, -1000000) _ _ (Or.inl ⟨rfl, rfl, rfl⟩) (Fr_rf _ _) h16 q⟩
end ND
theorem S_newDoor (M : Mem) (a b x : Int32) (A : Tn) (hC : RC M 41 A) (hM : RM M 0 A) (hV : V A) (h0 : M 85 15 = 0) : w_X8_newDoor M a b x (fun r M1 => w_X9_newDoor M1 a b x (fun r2 M2 => r = r2 ∧ Fr SScr M M2)) := by
  have hn := (V_np hV).2
  have hr := (V_nr hV).2
  unfold w_X8_newDoor
  refine P8 hC hV (fun p hp ep => br1 (R8 hC hV (fun rm hrm er => br1 ?_) (fun hne => br0 ?_))) (fun hne => br0 ?_)
  · subst ep er
    rw [show (2 : Int32) = nI 2 from rfl, W8_ix (by decide)]
    by_cases hx : isIx x 2
    · rw [bI_t hx]
      refine cr1 (W7_take hC hV hp (fun M10 hF hT => W8_nd (RC_SW hC hF) hV hp (by omega) hT (fun M2 hF2 => ?_)))
      have hF2 := Fr_tr hF hF2
      have m9 : ∀ (R : Int32 → Mem → Prop), (∀ M3, Fr SScr M M3 → (x = 0 → R (out (fun a b => fd (Ew A p (N1 a b)) rm (na A 4 p)) (nr A) (nr A) 0 (-1000000, -1000000)).1 M3) ∧ (¬ x = 0 → R (out (fun a b => fd (Ew A p (N1 a b)) rm (na A 4 p)) (nr A) (nr A) 0 (-1000000, -1000000)).2 M3)) → w_X9_newDoor M2 (nI p) (nI rm) x R := by
        intro R hR
        have hM12 := RM_SW hM hV hF2
        unfold w_X9_newDoor
        refine P9 hM12 hV (fun p2 hp2 e => br1 (R9 hM12 hV (fun r2 hr2 e2 => br1 ?_) (fun h => absurd ⟨rm, hrm, rfl⟩ h))) (fun h => absurd ⟨p, hp, rfl⟩ h)
        rw [W9_ix (n := 2) (by decide) (by decide) (by decide), bI_t hx]
        refine cr1 (W9_layOpen hM12 hV ((hF2 85 15 (by unfold SW; omega)).trans h0) hp (fun M3 hF3 h16 h17 => W9_nd (RM_S85 hM12 hV hF3) hV hp (by omega) h16 (fun M4 hF4 => hR M4 ?_)))
        exact Fr_tr (Fr_mono hF2 (fun k j h => SW_scr h)) (Fr_mono (Fr_tr hF3 hF4) (fun k j h => S85_scr h))
      exact ⟨fun z => m9 _ (fun M3 hF3 => ⟨fun _ => ⟨rfl, hF3⟩, fun y => absurd z y⟩), fun z => m9 _ (fun M3 hF3 => ⟨fun y => absurd y z, fun _ => ⟨rfl, hF3⟩⟩)⟩
    · rw [bI_f hx]
      refine cr0 ?_
      unfold w_X9_newDoor
      refine P9 hM hV (fun p2 hp2 e => br1 (R9 hM hV (fun r2 hr2 e2 => br1 ?_) (fun h => absurd ⟨rm, hrm, rfl⟩ h))) (fun h => absurd ⟨p, hp, rfl⟩ h)
      rw [W9_ix (n := 2) (by decide) (by decide) (by decide), bI_f hx]
      exact cr0 ⟨rfl, Fr_rf _ _⟩
  · unfold w_X9_newDoor
    exact P9 hM hV (fun p2 hp2 e => br1 (R9 hM hV (fun r2 hr2 e2 => absurd ⟨r2, hr2, e2⟩ hne) (fun h => br0 ⟨rfl, Fr_rf _ _⟩))) (fun h => absurd ⟨p, hp, ep⟩ h)
  · unfold w_X9_newDoor
    exact P9 hM hV (fun p2 hp2 e => absurd ⟨p2, hp2, e⟩ hne) (fun h => br0 ⟨rfl, Fr_rf _ _⟩)
