/-! TOKENS of a TOWN's text t of L letters -/
def no1 : Nat → Bool := fun _ => false
theorem z10 : ∀ v, v < 10 → ((((0 : Int32) >>> (nI v &&& 31)) &&& 1) = 0) := by decide +kernel
theorem hb0 {hi : Nat} (h : hi < 10) : ∀ v, v ≤ hi → (((((0 : Int32) >>> (nI v &&& 31)) &&& 1) = 0) ↔ no1 v = false) := fun v hv => ⟨fun _ => rfl, fun _ => z10 v (by omega)⟩
def fg (t : Nat → Int32) (L i : Nat) : Bool := decide (i < L ∧ 48 ≤ t i ∧ t i ≤ 57)
def nv (t : Nat → Int32) (i : Nat) : Nat := Int32.toNatClampNeg (t i) - 48
theorem fg_t {t : Nat → Int32} {L i : Nat} (h : fg t L i = true) : i < L ∧ nv t i ≤ 9 ∧ t i = nI (48 + nv t i) := by
  unfold fg at h
  obtain ⟨h1, h2, h3⟩ := of_decide_eq_true h
  have h0 : ¬ t i < 0 := by
    rw [fa_lt]
    rw [fa_le] at h2
    have e : (48 : Int32).toInt = 48 := by decide
    have e0 : (0 : Int32).toInt = 0 := by decide
    omega
  obtain ⟨j, hj, e⟩ := nI_of h0
  unfold nv
  rw [e] at h2 h3 ⊢
  have a := (nI_leI (a := 48) (by decide) hj).mp h2
  have b := (nI_leI (b := 57) hj (by decide)).mp h3
  rw [nI_clamp hj]
  exact ⟨h1, by omega, by rw [show 48 + (j - 48) = j by omega]⟩
theorem fg_f {t : Nat → Int32} {L i : Nat} (h : fg t L i = false) (hi : i < L) : ¬ (48 ≤ t i ∧ t i ≤ 57) := by
  unfold fg at h
  exact fun e => of_decide_eq_false h ⟨hi, e.1, e.2⟩
def nOk (t : Nat → Int32) (L i : Nat) : Bool := fg t L i && !(fg t L (i + 1) && fg t L (i + 2))
def nvl (t : Nat → Int32) (L i : Nat) : Nat := if fg t L (i + 1) = true then 10 * nv t i + nv t (i + 1) else nv t i
def nsz (t : Nat → Int32) (L i : Nat) : Nat := if fg t L (i + 1) = true then 2 else 1
theorem nOk_b {t : Nat → Int32} {L i : Nat} (h : nOk t L i = true) : nvl t L i ≤ 99 ∧ i + nsz t L i ≤ L ∧ i < L ∧ 1 ≤ nsz t L i := by
  unfold nOk at h
  have h1 : fg t L i = true := by
    cases e : fg t L i
    · rw [e] at h; exact absurd h (by simp)
    · rfl
  have a := fg_t h1
  unfold nvl nsz
  by_cases e : fg t L (i + 1) = true
  · have b := fg_t e
    rw [if_pos e, if_pos e]
    omega
  · rw [if_neg e, if_neg e]
    omega
/-- a number from lo to hi that isn't barred, and the sign c behind it -/
def pa (t : Nat → Int32) (L i lo hi : Nat) (bar : Nat → Bool) (c : Int32) : Sum (Nat × Nat) (Nat × Nat) := if nOk t L i = true then (if lo ≤ nvl t L i ∧ nvl t L i ≤ hi ∧ bar (nvl t L i) = false then (if i + nsz t L i < L ∧ t (i + nsz t L i) = c then .inr (nvl t L i, i + nsz t L i + 1) else .inl (1, i + nsz t L i)) else .inl (2, i)) else .inl (1, i)
section PA
variable {t : Nat → Int32} {L i lo hi : Nat} {bar : Nat → Bool} {c : Int32}
theorem pa_1 (h : ¬ nOk t L i = true) : pa t L i lo hi bar c = .inl (1, i) := if_neg h
theorem pa_2 (h : nOk t L i = true) (h2 : ¬ (lo ≤ nvl t L i ∧ nvl t L i ≤ hi ∧ bar (nvl t L i) = false)) : pa t L i lo hi bar c = .inl (2, i) := by
  unfold pa; rw [if_pos h, if_neg h2]
theorem pa_3 (h : nOk t L i = true) (h2 : lo ≤ nvl t L i ∧ nvl t L i ≤ hi ∧ bar (nvl t L i) = false) (h3 : ¬ (i + nsz t L i < L ∧ t (i + nsz t L i) = c)) : pa t L i lo hi bar c = .inl (1, i + nsz t L i) := by
  unfold pa; rw [if_pos h, if_pos h2, if_neg h3]
theorem pa_4 (h : nOk t L i = true) (h2 : lo ≤ nvl t L i ∧ nvl t L i ≤ hi ∧ bar (nvl t L i) = false) (h3 : i + nsz t L i < L ∧ t (i + nsz t L i) = c) : pa t L i lo hi bar c = .inr (nvl t L i, i + nsz t L i + 1) := by
  unfold pa; rw [if_pos h, if_pos h2, if_pos h3]
theorem pa_r {a j : Nat} (h : pa t L i lo hi bar c = .inr (a, j)) : lo ≤ a ∧ a ≤ hi ∧ bar a = false ∧ j ≤ L := by
  by_cases h1 : nOk t L i = true
  · by_cases h2 : lo ≤ nvl t L i ∧ nvl t L i ≤ hi ∧ bar (nvl t L i) = false
    · by_cases h3 : i + nsz t L i < L ∧ t (i + nsz t L i) = c
      · rw [pa_4 h1 h2 h3] at h
        injection h with h
        injection h with e1 e2
        rw [← e1, ← e2]
        exact ⟨h2.1, h2.2.1, h2.2.2, by omega⟩
      · rw [pa_3 h1 h2 h3] at h; cases h
    · rw [pa_2 h1 h2] at h; cases h
  · rw [pa_1 h1] at h; cases h
end PA
theorem nI_ng {v : Nat} (h : v < 2 ^ 31) : ¬ nI v = -1000000 := by
  intro e
  have := nI_toInt h
  rw [e] at this
  have e2 : (-1000000 : Int32).toInt = -1000000 := by decide
  omega
/-! the class reads -/
def TC (M : Mem) (t : Nat → Int32) (L i : Nat) : Prop := M 19 1 = nI L ∧ (∀ x, x < L → M 20 x = t x) ∧ M 19 2 = nI i
section C3
variable {M : Mem} {t : Nat → Int32} {L i : Nat} {Q : Int32 → Mem → Prop}
theorem W3_byte {x : Nat} (h : TC M t L i) (hL : L ≤ 120) (hx : x ≤ 200) (q1 : x < L → Q (t x) M) (q0 : ¬ x < L → Q (-1) M) : w_X3_byteAt M (nI x) Q := by
  unfold w_X3_byteAt
  refine W8m h.1 (by omega) (fun z => ⟨fun e => absurd e (by decide), fun _ => ?_⟩) (fun z => ⟨fun _ => ?_, fun e => absurd rfl e⟩)
  · obtain ⟨j, hj, e⟩ := z
    have e := nI_inj (by omega) (by omega) e
    subst e
    rw [ix_nat (by omega), h.2.1 x hj]
    exact ⟨vp_in_nI (by omega) (by decide), q1 hj⟩
  · exact q0 (fun hl => z ⟨x, hl, rfl⟩)
theorem W3_fig {x : Int32} (q1 : (48 ≤ x ∧ x ≤ 57) → Q 1 M) (q0 : ¬ (48 ≤ x ∧ x ≤ 57) → Q 0 M) : w_X3_isFigure M x Q := by
  unfold w_X3_isFigure
  refine ⟨fun z => q0 (fun e => absurd z (Int32.not_lt.mpr e.1)), fun z => ⟨fun y => q0 (fun e => absurd y (Int32.not_lt.mpr e.2)), fun y => q1 ⟨Int32.not_lt.mp z, Int32.not_lt.mp y⟩⟩⟩
theorem W3_nstep {n k acc : Nat} {x1 x2 x3 : Int32} (h : TC M t L i) (hL : L ≤ 120) (hi : i ≤ L) (hk : k < 3) (f1 : fg t L (i + k) = true → wL_X3_readNumber_9 Q n M x1 x2 x3 (nI (k + 1)) (nI (10 * acc + nv t (i + k))) (nI (k + 1))) (f0 : ¬ fg t L (i + k) = true → wJ_X3_readNumber_63 Q M x1 x2 x3 (nI k) (nI acc)) : wL_X3_readNumber_9 Q (n + 1) M x1 x2 x3 (nI k) (nI acc) (nI k) := by
  show wB_X3_readNumber_9 Q _ M x1 x2 x3 (nI k) (nI acc) (nI k)
  unfold wB_X3_readNumber_9
  refine ⟨fun e => absurd e (nI_ge (b := 3) hk (by decide)), fun _ => ?_⟩
  rw [h.2.2, nI_add]
  refine W3_byte h hL (by omega) (fun hx => ?_) (fun hx => ?_)
  · refine W3_fig (fun y => ⟨fun e => absurd e (by decide), fun _ => ?_⟩) (fun y => ⟨fun _ => f0 (fun e => ?_), fun e => absurd rfl e⟩)
    · have hf : fg t L (i + k) = true := decide_eq_true ⟨hx, y⟩
      rw [h.2.2, nI_add]
      refine W3_byte h hL (by omega) (fun _ v9 e9 v10 e10 v11 e11 => ?_) (fun e => absurd hx e)
      have e := (fg_t hf).2.2
      rw [e, show (10 : Int32) = nI 10 from rfl, pk_mul, nI_add, show (48 : Int32) = nI 48 from rfl, pk_sub (by omega), show acc * 10 + (48 + nv t (i + k)) - 48 = 10 * acc + nv t (i + k) by omega] at e9
      rw [e9, e10, e11, nI_1]
      exact f1 hf
    · exact y (of_decide_eq_true e).2
  · refine W3_fig (fun y => absurd y.1 (by decide)) (fun y => ⟨fun _ => f0 (fun e => hx (fg_t e).1), fun e => absurd rfl e⟩)
theorem W3_n63 {k acc lo hi : Nat} {bar : Nat → Bool} {x3 : Int32} (h : TC M t L i) (hk : k ≤ 3) (ha : acc < 1000) (hlo : lo < 1000) (hhi : hi < 1000) (hb : ∀ v, v ≤ hi → ((((x3 >>> (nI v &&& 31)) &&& 1) = 0) ↔ bar v = false)) (q1 : k = 0 ∨ k = 3 → Q (-1000000) (ms M 19 3 1)) (q2 : k = 1 ∨ k = 2 → ¬ (lo ≤ acc ∧ acc ≤ hi ∧ bar acc = false) → Q (-1000000) (ms M 19 3 2)) (q3 : k = 1 ∨ k = 2 → (lo ≤ acc ∧ acc ≤ hi ∧ bar acc = false) → Q (nI acc) (ms M 19 2 (nI (i + k)))) : wJ_X3_readNumber_63 Q M (nI lo) (nI hi) x3 (nI k) (nI acc) := by
  unfold wJ_X3_readNumber_63
  refine ⟨fun z M2 e2 => ?_, fun z => ⟨fun y => ⟨fun x M2 e2 => ?_, fun x => ⟨fun w M2 e2 => ?_, fun w => ⟨fun u v12 e12 M13 e13 => ?_, fun u M2 e2 => ?_⟩⟩⟩, fun y M2 e2 => ?_⟩⟩
  · have z := nI_inj (b := 0) (by omega) (by decide) z
    rw [e2]; exact q1 (Or.inl z)
  all_goals (have z : ¬ k = 0 := fun e => z ((nI_eq (a := k) (b := 0) (by omega) (by decide)).mpr e))
  all_goals (try (have y := (nI_leI (a := k) (b := 2) (by omega) (by decide)).mp y))
  · have x := (nI_ltI (by omega) (by omega)).mp x
    rw [e2]; exact q2 (by omega) (fun e => by omega)
  · have w := (nI_ltI (by omega) (by omega)).mp w
    rw [e2]; exact q2 (by omega) (fun e => by omega)
  · have x : ¬ acc < lo := fun e => x ((nI_ltI (a := acc) (b := lo) (by omega) (by omega)).mpr e)
    have w : ¬ hi < acc := fun e => w ((nI_ltI (a := hi) (b := acc) (by omega) (by omega)).mpr e)
    rw [h.2.2, nI_add] at e12
    rw [e13, e12]
    exact q3 (by omega) ⟨by omega, by omega, (hb acc (by omega)).mp u⟩
  · have w : ¬ hi < acc := fun e => w ((nI_ltI (a := hi) (b := acc) (by omega) (by omega)).mpr e)
    rw [e2]
    exact q2 (by omega) (fun e => u ((hb acc (by omega)).mpr e.2.2))
  · have y : ¬ k ≤ 2 := fun e => y ((nI_leI (a := k) (b := 2) (by omega) (by decide)).mpr e)
    rw [e2]; exact q1 (by omega)
theorem W3_num {lo hi : Nat} {bar : Nat → Bool} {x3 : Int32} (h : TC M t L i) (hL : L ≤ 120) (hi2 : i ≤ L) (hlo : lo < 1000) (hhi : hi < 1000) (hb : ∀ v, v ≤ hi → ((((x3 >>> (nI v &&& 31)) &&& 1) = 0) ↔ bar v = false)) (q1 : ¬ nOk t L i = true → Q (-1000000) (ms M 19 3 1)) (q2 : nOk t L i = true → ¬ (lo ≤ nvl t L i ∧ nvl t L i ≤ hi ∧ bar (nvl t L i) = false) → Q (-1000000) (ms M 19 3 2)) (q3 : nOk t L i = true → (lo ≤ nvl t L i ∧ nvl t L i ≤ hi ∧ bar (nvl t L i) = false) → Q (nI (nvl t L i)) (ms M 19 2 (nI (i + nsz t L i)))) : w_X3_readNumber M (nI lo) (nI hi) x3 Q := by
  refine ⟨4, ?_⟩
  refine W3_nstep (k := 0) (acc := 0) h hL hi2 (by decide) (fun f0 => ?_) (fun f0 => ?_)
  · have b0 := fg_t f0
    refine W3_nstep (k := 1) h hL hi2 (by decide) (fun f1 => ?_) (fun f1 => ?_)
    · have b1 := fg_t f1
      refine W3_nstep (k := 2) h hL hi2 (by decide) (fun f2 => ?_) (fun f2 => ?_)
      · have b2 := fg_t f2
        refine ⟨fun _ => ?_, fun e => absurd (nI_le (a := 3) (b := 3) (by omega) (by decide)) e⟩
        refine W3_n63 (k := 3) h (by decide) (by omega) hlo hhi hb (fun _ => q1 ?_) (fun e => by omega) (fun e => by omega)
        unfold nOk
        rw [f1, f2]
        simp
      · have ok : nOk t L i = true := by
          unfold nOk
          rw [show fg t L i = true from f0]
          cases e : fg t L (i + 2)
          · simp
          · exact absurd e f2
        have ev : nvl t L i = 10 * (10 * 0 + nv t (i + 0)) + nv t (i + 1) := by
          unfold nvl; rw [if_pos f1, Nat.mul_zero, Nat.zero_add]; rfl
        have es : nsz t L i = 2 := by unfold nsz; rw [if_pos f1]
        rw [ev] at q2 q3
        rw [es] at q3
        exact W3_n63 (k := 2) h (by decide) (by omega) hlo hhi hb (fun e => by omega) (fun _ => q2 ok) (fun _ => q3 ok)
    · have ok : nOk t L i = true := by
        unfold nOk
        rw [show fg t L i = true from f0]
        cases e : fg t L (i + 1)
        · simp
        · exact absurd e f1
      have ev : nvl t L i = 10 * 0 + nv t (i + 0) := by
        unfold nvl; rw [if_neg f1]; simp
      have es : nsz t L i = 1 := by unfold nsz; rw [if_neg f1]
      rw [ev] at q2 q3
      rw [es] at q3
      exact W3_n63 (k := 1) h (by decide) (by omega) hlo hhi hb (fun e => by omega) (fun _ => q2 ok) (fun _ => q3 ok)
  · refine W3_n63 (k := 0) h (by decide) (by omega) hlo hhi hb (fun _ => q1 ?_) (fun e => by omega) (fun e => by omega)
    intro e
    exact f0 (by
      unfold nOk at e
      cases e2 : fg t L i
      · rw [e2] at e; exact absurd e (by simp)
      · rfl)
theorem W3_sign {c : Int32} (h : TC M t L i) (hL : L ≤ 120) (hi2 : i ≤ L) (hc : ¬ (-1 : Int32) = c) (q1 : (i < L ∧ t i = c) → Q 1 (ms M 19 2 (nI (i + 1)))) (q0 : ¬ (i < L ∧ t i = c) → Q 0 (ms M 19 3 1)) : w_X3_readSign M c Q := by
  unfold w_X3_readSign
  rw [h.2.2]
  refine W3_byte h hL (by omega) (fun hx => ⟨fun z v4 e4 M5 e5 => ?_, fun z M6 e6 => ⟨Or.inl rfl, ?_⟩⟩) (fun hx => ⟨fun z => absurd z hc, fun z M6 e6 => ⟨Or.inl rfl, ?_⟩⟩)
  · rw [h.2.2, nI_1] at e4
    rw [e5, e4]; exact q1 ⟨hx, z⟩
  · rw [e6]; exact q0 (fun e => z e.2)
  · rw [e6]; exact q0 (fun e => hx e.1)
def S3 (k j : Nat) : Prop := k = 19 ∧ 2 ≤ j
theorem TC_fr {M1 : Mem} {i j : Nat} (h : TC M t L i) (hf : Fr S3 M M1) (e : M1 19 2 = nI j) : TC M1 t L j := ⟨(hf 19 1 (fun z => by unfold S3 at z; omega)).trans h.1, fun x hx => (hf 20 x (fun z => by unfold S3 at z; omega)).trans (h.2.1 x hx), e⟩
theorem W3_first {lo hi : Nat} (h : TC M t L i) (hL : L ≤ 120) (hi2 : i ≤ L) (hlo : lo < 1000) (hhi : hi < 10) (q0 : ∀ f p, pa t L i lo hi no1 44 = .inl (f, p) → ∀ M1, Fr S3 M M1 → M1 19 2 = nI p → M1 19 3 = nI f → Q 0 M1) (q1 : ∀ a j, pa t L i lo hi no1 44 = .inr (a, j) → ∀ M1, Fr S3 M M1 → M1 19 2 = nI j → M1 19 4 = nI a → Q 1 M1) : w_X3_readFirst M (nI lo) (nI hi) Q := by
  unfold w_X3_readFirst
  have fr : ∀ {M1 M2 : Mem} {j : Nat} (v : Int32), Fr S3 M1 M2 → 2 ≤ j → Fr S3 M1 (ms M2 19 j v) := fun v hf hj => Fr_ms hf v ⟨rfl, hj⟩
  refine W3_num (bar := no1) h hL hi2 hlo (by omega) (hb0 hhi) (fun ok M3 e3 => ⟨fun _ => ?_, fun e => absurd ?_ e⟩) (fun ok hr M3 e3 => ⟨fun _ => ?_, fun e => absurd ?_ e⟩) (fun ok hr M3 e3 => ⟨fun e => ?_, fun _ => ?_⟩)
  · refine q0 1 i (pa_1 ok) M3 ?_ ?_ ?_
    · rw [e3]; exact fr _ (fr _ (Fr_rf _ _) (by decide)) (by decide)
    · rw [e3, ms_ne2 (by decide), ms_ne2 (by decide), h.2.2]
    · rw [e3, ms_ne2 (by decide), ms_eq]; rfl
  · rw [e3, ms_eq]
  · refine q0 2 i (pa_2 ok hr) M3 ?_ ?_ ?_
    · rw [e3]; exact fr _ (fr _ (Fr_rf _ _) (by decide)) (by decide)
    · rw [e3, ms_ne2 (by decide), ms_ne2 (by decide), h.2.2]
    · rw [e3, ms_ne2 (by decide), ms_eq]; rfl
  · rw [e3, ms_eq]
  · rw [e3, ms_eq] at e
    exact absurd e (nI_ng (by have := nOk_b ok; omega))
  · have b := nOk_b ok
    have f3 : Fr S3 M M3 := by rw [e3]; exact fr _ (fr _ (Fr_rf _ _) (by decide)) (by decide)
    have k2 : M3 19 2 = nI (i + nsz t L i) := by rw [e3, ms_ne2 (by decide), ms_eq]
    have k4 : M3 19 4 = nI (nvl t L i) := by rw [e3, ms_eq]
    refine W3_sign (TC_fr h f3 k2) hL (by omega) (by decide) (fun hs => ⟨fun e => absurd e (by decide), fun _ => ?_⟩) (fun hs => ⟨fun _ => ?_, fun e => absurd rfl e⟩)
    · refine q1 _ _ (pa_4 ok hr hs) _ (fr _ f3 (by decide)) ?_ ?_
      · rw [ms_eq]
      · rw [ms_ne2 (by decide), k4]
    · refine q0 _ _ (pa_3 ok hr hs) _ (fr _ f3 (by decide)) ?_ ?_
      · rw [ms_ne2 (by decide), k2]
      · rw [ms_eq]; rfl
theorem W3_second {hi : Nat} {bar : Nat → Bool} {x3 : Int32} (h : TC M t L i) (hL : L ≤ 120) (hi2 : i ≤ L) (hhi : hi < 1000) (hb : ∀ v, v ≤ hi → ((((x3 >>> (nI v &&& 31)) &&& 1) = 0) ↔ bar v = false)) (q0 : ∀ f p, pa t L i 0 hi bar 59 = .inl (f, p) → ∀ M1, Fr S3 M M1 → M1 19 2 = nI p → M1 19 3 = nI f → Q 0 M1) (q1 : ∀ b j, pa t L i 0 hi bar 59 = .inr (b, j) → ∀ M1, Fr S3 M M1 → M1 19 2 = nI j → M1 19 4 = M 19 4 → M1 19 5 = nI b → Q 1 M1) : w_X3_readSecond M (nI hi) x3 Q := by
  unfold w_X3_readSecond
  have fr : ∀ {M1 M2 : Mem} {j : Nat} (v : Int32), Fr S3 M1 M2 → 2 ≤ j → Fr S3 M1 (ms M2 19 j v) := fun v hf hj => Fr_ms hf v ⟨rfl, hj⟩
  refine W3_num (lo := 0) (bar := bar) h hL hi2 (by decide) hhi hb (fun ok M3 e3 => ⟨fun _ => ?_, fun e => absurd ?_ e⟩) (fun ok hr M3 e3 => ⟨fun _ => ?_, fun e => absurd ?_ e⟩) (fun ok hr M3 e3 => ⟨fun e => ?_, fun _ => ?_⟩)
  · refine q0 1 i (pa_1 ok) M3 ?_ ?_ ?_
    · rw [e3]; exact fr _ (fr _ (Fr_rf _ _) (by decide)) (by decide)
    · rw [e3, ms_ne2 (by decide), ms_ne2 (by decide), h.2.2]
    · rw [e3, ms_ne2 (by decide), ms_eq]; rfl
  · rw [e3, ms_eq]
  · refine q0 2 i (pa_2 ok hr) M3 ?_ ?_ ?_
    · rw [e3]; exact fr _ (fr _ (Fr_rf _ _) (by decide)) (by decide)
    · rw [e3, ms_ne2 (by decide), ms_ne2 (by decide), h.2.2]
    · rw [e3, ms_ne2 (by decide), ms_eq]; rfl
  · rw [e3, ms_eq]
  · rw [e3, ms_eq] at e
    exact absurd e (nI_ng (by have := nOk_b ok; omega))
  · have b := nOk_b ok
    have f3 : Fr S3 M M3 := by rw [e3]; exact fr _ (fr _ (Fr_rf _ _) (by decide)) (by decide)
    have k2 : M3 19 2 = nI (i + nsz t L i) := by rw [e3, ms_ne2 (by decide), ms_eq]
    have k4 : M3 19 4 = M 19 4 := by rw [e3, ms_ne2 (by decide), ms_ne2 (by decide)]
    have k5 : M3 19 5 = nI (nvl t L i) := by rw [e3, ms_eq]
    refine W3_sign (TC_fr h f3 k2) hL (by omega) (by decide) (fun hs => ⟨fun e => absurd e (by decide), fun _ => ?_⟩) (fun hs => ⟨fun _ => ?_, fun e => absurd rfl e⟩)
    · refine q1 _ _ (pa_4 ok hr hs) _ (fr _ f3 (by decide)) ?_ ?_ ?_
      · rw [ms_eq]
      · rw [ms_ne2 (by decide), k4]
      · rw [ms_ne2 (by decide), k5]
    · refine q0 _ _ (pa_3 ok hr hs) _ (fr _ f3 (by decide)) ?_ ?_
      · rw [ms_ne2 (by decide), k2]
      · rw [ms_eq]; rfl
end C3
/-! the reference reads -/
def TR (M : Mem) (t : Nat → Int32) (L i : Nat) : Prop := M 85 7 = nI L ∧ (∀ x, x < L → M 91 x = t x) ∧ M 85 12 = nI i
def St9 (k j : Nat) : Prop := k = 85 ∧ 12 ≤ j ∧ j ≤ 14
section R9
variable {M : Mem} {t : Nat → Int32} {L i : Nat} {Q : Int32 → Mem → Prop}
theorem W9_letter {c : Int32} (h : TR M t L i) (hL : L ≤ 120) (hi2 : i ≤ L) (q1 : (i < L ∧ t i = c) → Q 1 M) (q0 : ¬ (i < L ∧ t i = c) → Q 0 M) : w_X9_isLetter M c Q := by
  unfold w_X9_isLetter
  rw [h.1, h.2.2]
  refine ⟨fun z => q0 (fun e => ?_), fun z v2 e2 => ?_⟩
  · have z := (nI_leI (by omega) (by omega)).mp z
    omega
  · have z : i < L := Nat.lt_of_not_le (fun e => z (nI_le e (by omega)))
    rw [e2, ix_nat (by omega), h.2.1 i z]
    exact ⟨vp_in_nI (by omega) (by decide), fun y => q0 (fun e => y e.2), fun y => q1 ⟨z, y⟩⟩
theorem W9_fig {x : Nat} (h : TR M t L i) (hL : L ≤ 120) (hx : x ≤ 200) (q1 : fg t L x = true → Q 1 M) (q0 : ¬ fg t L x = true → Q 0 M) : w_X9_isFigure M (nI x) Q := by
  unfold w_X9_isFigure
  rw [h.1]
  refine ⟨fun z => q0 (fun e => ?_), fun z => ?_⟩
  · have z := (nI_leI (by omega) (by omega)).mp z
    have := (fg_t e).1
    omega
  · have z : x < L := Nat.lt_of_not_le (fun e => z (nI_le e (by omega)))
    rw [ix_nat (by omega), h.2.1 x z]
    refine ⟨vp_in_nI (by omega) (by decide), ?_⟩
    rw [show (48 : Int64) = (48 : Int32).toInt64 from by decide, show (57 : Int64) = (57 : Int32).toInt64 from by decide, W9_inI]
    by_cases y : 48 ≤ t x ∧ t x ≤ 57
    · rw [bI_t y]
      exact ⟨fun e => absurd e (by decide), fun _ => q1 (decide_eq_true ⟨z, y⟩)⟩
    · rw [bI_f y]
      exact ⟨fun _ => q0 (fun e => y (of_decide_eq_true e).2), fun e => absurd rfl e⟩
theorem W9_sign {c : Int32} (h : TR M t L i) (hL : L ≤ 120) (hi2 : i ≤ L) (q1 : (i < L ∧ t i = c) → Q 1 (ms M 85 12 (nI (i + 1)))) (q0 : ¬ (i < L ∧ t i = c) → Q 0 (ms M 85 13 1)) : w_X9_sign M c Q := by
  unfold w_X9_sign
  refine W9_letter h hL hi2 (fun z => ⟨fun _ v4 e4 M5 e5 => ?_, fun e => absurd e (by decide)⟩) (fun z => ⟨fun e => absurd rfl e, fun _ M6 e6 => ⟨Or.inl rfl, ?_⟩⟩)
  · rw [h.2.2, nI_1] at e4
    rw [e5, e4]; exact q1 z
  · rw [e6]; exact q0 z
theorem W9_n113 {lo hi v s : Nat} (hv : v < 1000) (hlo : lo < 1000) (hhi : hi < 1000) (hi2 : i ≤ 120) (hs : s ≤ 2) (hp : M 85 12 = nI i) (q2 : ¬ (lo ≤ v ∧ v ≤ hi) → ∀ M1, Fr St9 M M1 → M1 85 12 = nI i → M1 85 13 = 2 → Q 0 M1) (q3 : (lo ≤ v ∧ v ≤ hi) → ∀ M1, Fr St9 M M1 → M1 85 12 = nI (i + s) → M1 85 14 = nI v → Q 1 M1) : wJ_X9_readsNumber_113 Q M (nI lo) (nI hi) (nI s) (nI v) := by
  unfold wJ_X9_readsNumber_113
  intro M1 e1
  have k14 : M1 85 14 = nI v := by rw [e1, ms_eq]
  have k12 : M1 85 12 = nI i := by rw [e1, ms_ne2 (by decide), hp]
  have f1 : Fr St9 M M1 := by rw [e1]; exact Fr_ms (Fr_rf _ _) _ ⟨rfl, by decide, by decide⟩
  rw [k14, W9_inI]
  by_cases y : nI lo ≤ nI v ∧ nI v ≤ nI hi
  · have y2 : lo ≤ v ∧ v ≤ hi := ⟨(nI_leI (by omega) (by omega)).mp y.1, (nI_leI (by omega) (by omega)).mp y.2⟩
    rw [bI_t y]
    refine ⟨fun _ v5 e5 M6 e6 => ?_, fun e => absurd e (by decide)⟩
    rw [k12, nI_add] at e5
    refine q3 y2 M6 ?_ ?_ ?_
    · rw [e6]; exact Fr_ms f1 _ ⟨rfl, by decide, by decide⟩
    · rw [e6, ms_eq, e5]
    · rw [e6, ms_ne2 (by decide), k14]
  · have y2 : ¬ (lo ≤ v ∧ v ≤ hi) := fun e => y ⟨nI_le e.1 (by omega), nI_le e.2 (by omega)⟩
    rw [bI_f y]
    refine ⟨fun e => absurd rfl e, fun _ M7 e7 => ⟨Or.inl rfl, q2 y2 M7 ?_ ?_ ?_⟩⟩
    · rw [e7]; exact Fr_ms f1 _ ⟨rfl, by decide, by decide⟩
    · rw [e7, ms_ne2 (by decide), k12]
    · rw [e7, ms_eq]
theorem W9_num {lo hi : Nat} (h : TR M t L i) (hL : L ≤ 120) (hi2 : i ≤ L) (hlo : lo < 1000) (hhi : hi < 1000) (q1 : ¬ nOk t L i = true → ∀ M1, Fr St9 M M1 → M1 85 12 = nI i → M1 85 13 = 1 → Q 0 M1) (q2 : nOk t L i = true → ¬ (lo ≤ nvl t L i ∧ nvl t L i ≤ hi) → ∀ M1, Fr St9 M M1 → M1 85 12 = nI i → M1 85 13 = 2 → Q 0 M1) (q3 : nOk t L i = true → (lo ≤ nvl t L i ∧ nvl t L i ≤ hi) → ∀ M1, Fr St9 M M1 → M1 85 12 = nI (i + nsz t L i) → M1 85 14 = nI (nvl t L i) → Q 1 M1) : w_X9_readsNumber M (nI lo) (nI hi) Q := by
  have bad : ¬ nOk t L i = true → Q 0 (ms M 85 13 1) := fun z => q1 z _ (Fr_ms (Fr_rf _ _) _ ⟨rfl, by decide, by decide⟩) (by rw [ms_ne2 (by decide), h.2.2]) (by rw [ms_eq])
  have go : nOk t L i = true → wJ_X9_readsNumber_43 Q M (nI lo) (nI hi) := by
    intro ok
    have b := nOk_b ok
    have f0 : fg t L i = true := by
      unfold nOk at ok
      cases e2 : fg t L i
      · rw [e2] at ok; exact absurd ok (by simp)
      · rfl
    have b0 := fg_t f0
    unfold wJ_X9_readsNumber_43
    rw [h.2.2]
    intro v1 e1
    rw [e1, ix_nat (by omega), h.2.1 i b0.1, b0.2.2]
    refine ⟨vp_in_nI (by omega) (by decide), fun v3 e3 M4 e4 => ?_⟩
    rw [show (48 : Int32) = nI 48 from rfl, pk_sub (by omega), show 48 + nv t i - 48 = nv t i by omega] at e3
    have k14 : M4 85 14 = nI (nv t i) := by rw [e4, ms_eq, e3]
    have h4 : TR M4 t L i := ⟨by rw [e4, ms_ne2 (by decide), h.1], fun x hx => by rw [e4, ms_ne (by decide), h.2.1 x hx], by rw [e4, ms_ne2 (by decide), h.2.2]⟩
    have f4 : Fr St9 M M4 := by rw [e4]; exact Fr_ms (Fr_rf _ _) _ ⟨rfl, by decide, by decide⟩
    rw [h4.2.2, nI_1]
    refine W9_fig h4 hL (by omega) (fun f1 => ⟨fun e => absurd e (by decide), fun _ => ?_⟩) (fun f1 => ⟨fun _ => ?_, fun e => absurd rfl e⟩)
    · have b1 := fg_t f1
      refine ⟨fun e => absurd rfl e, fun _ v2 e2 => ?_⟩
      rw [h4.2.2, nI_1] at e2
      rw [e2, ix_nat (by omega), h4.2.1 (i + 1) b1.1, b1.2.2, k14]
      refine ⟨vp_in_nI (by omega) (by decide), ?_⟩
      rw [show (10 : Int32) * nI (nv t i) + nI (48 + nv t (i + 1)) - 48 = nI (nvl t L i) from by
        rw [show (10 : Int32) = nI 10 from rfl, pk_mul, nI_add, show (48 : Int32) = nI 48 from rfl, pk_sub (by omega)]
        unfold nvl
        rw [if_pos f1]
        exact congrArg nI (by omega)]
      have es : nsz t L i = 2 := by unfold nsz; rw [if_pos f1]
      rw [es] at q3
      exact W9_n113 (s := 2) (by omega) hlo hhi (by omega) (by omega) h4.2.2 (fun z M1 g1 g2 g3 => q2 ok z M1 (Fr_tr f4 g1) g2 g3) (fun z M1 g1 g2 g3 => q3 ok z M1 (Fr_tr f4 g1) g2 g3)
    · have ev : nvl t L i = nv t i := by unfold nvl; rw [if_neg f1]
      have es : nsz t L i = 1 := by unfold nsz; rw [if_neg f1]
      refine ⟨fun _ => ?_, fun e => absurd e (by decide)⟩
      rw [k14]
      rw [ev] at q2 q3
      rw [es] at q3
      exact W9_n113 (s := 1) (by omega) hlo hhi (by omega) (by omega) h4.2.2 (fun z M1 g1 g2 g3 => q2 ok z M1 (Fr_tr f4 g1) g2 g3) (fun z M1 g1 g2 g3 => q3 ok z M1 (Fr_tr f4 g1) g2 g3)
  unfold w_X9_readsNumber
  rw [h.2.2]
  refine W9_fig h hL (by omega) (fun f0 => ⟨fun e => absurd e (by decide), fun _ => ?_⟩) (fun f0 => ⟨fun _ M4 e4 => ⟨Or.inl rfl, ?_⟩, fun e => absurd rfl e⟩)
  · rw [h.2.2, nI_1]
    refine W9_fig h hL (by omega) (fun f1 => ⟨fun e => absurd e (by decide), fun _ => ?_⟩) (fun f1 => ⟨fun _ => go ?_, fun e => absurd rfl e⟩)
    · rw [h.2.2, show nI i + 2 = nI (i + 2) from nI_add i 2]
      refine W9_fig h hL (by omega) (fun f2 => ⟨fun e => absurd e (by decide), fun _ M12 e12 => ⟨Or.inl rfl, ?_⟩⟩) (fun f2 => ⟨fun _ => go ?_, fun e => absurd rfl e⟩)
      · rw [e12]
        refine bad (fun e => ?_)
        unfold nOk at e
        rw [f0, f1, f2] at e
        exact absurd e (by decide)
      · unfold nOk
        rw [f0]
        cases e : fg t L (i + 2)
        · simp
        · exact absurd e f2
    · unfold nOk
      rw [f0]
      cases e : fg t L (i + 1)
      · simp
      · exact absurd e f1
  · rw [e4]
    refine bad (fun e => f0 ?_)
    unfold nOk at e
    cases e2 : fg t L i
    · rw [e2] at e; exact absurd e (by simp)
    · rfl
end R9
