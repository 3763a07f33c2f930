noncomputable def HC (A : Tn) (c d p : Nat) (s : Nat → Bool) : Nat := if s c = true then 0 else @ite _ (Op A c d s) (Classical.propDecidable _) (WP (gC c p) (np A) s) 0
noncomputable def HR (A : Tn) (c d p : Nat) (s : Nat → Bool) : Nat := @ite _ (Op A c d (fun k => !s k)) (Classical.propDecidable _) (WP (gR c p) (np A) s) 0
theorem HC_t {A : Tn} {c d p : Nat} {s : Nat → Bool} (h : s c = true) : HC A c d p s = 0 := if_pos h
theorem HC_o {A : Tn} {c d p : Nat} {s : Nat → Bool} (h : ¬ s c = true) (ho : Op A c d s) : HC A c d p s = WP (gC c p) (np A) s := (if_neg h).trans (@if_pos _ (Classical.propDecidable _) ho _ _ _)
theorem HC_n {A : Tn} {c d p : Nat} {s : Nat → Bool} (ho : ¬ Op A c d s) : HC A c d p s = 0 := by
  by_cases hs : s c = true
  · exact HC_t hs
  · exact (if_neg hs).trans (@if_neg _ (Classical.propDecidable _) ho _ _ _)
theorem HR_o {A : Tn} {c d p : Nat} {s : Nat → Bool} (ho : Op A c d (fun k => !s k)) : HR A c d p s = WP (gR c p) (np A) s := @if_pos _ (Classical.propDecidable _) ho _ _ _
theorem HR_n {A : Tn} {c d p : Nat} {s : Nat → Bool} (ho : ¬ Op A c d (fun k => !s k)) : HR A c d p s = 0 := @if_neg _ (Classical.propDecidable _) ho _ _ _
theorem WP_cong (g : Nat → Bool → Nat) {s t : Nat → Bool} : ∀ n, (∀ k, k < n → s k = t k) → WP g n s = WP g n t
  | 0, _ => rfl
  | n + 1, h => by
    unfold WP
    rw [WP_cong g n (fun k hk => h k (by omega)), h n (by omega)]
/-- who has no weight may as well sleep -/
theorem Op_aw {A : Tn} {c d : Nat} {s t : Nat → Bool} (h : ∀ k, k < np A → k ≠ c → s k = t k) : Op A c d s ↔ Op A c d t := by
  unfold Op OPN sMar sAll
  rw [fb_si_cong (f := fun k => if s k then bv A c k * (bw A c d k : Int) else 0) (g := fun k => if t k then bv A c k * (bw A c d k : Int) else 0) (fun k hk => ?_), fb_sm_cong (f := fun k => if s k then bw A c d k else 0) (g := fun k => if t k then bw A c d k else 0) (fun k hk => ?_)]
  · by_cases e : k = c
    · have : bw A c d k = 0 := by unfold bw; rw [if_pos e]
      rw [this]
      split <;> split <;> rfl
    · rw [h k hk e]
  · by_cases e : k = c
    · have : bv A c k = 0 := by unfold bv; rw [if_pos e]
      rw [this, Int.zero_mul]
      split <;> split <;> rfl
    · rw [h k hk e]
section AWK
variable {A : Tn} {c d p : Nat}
theorem HC_cong {s t : Nat → Bool} (hc : c < np A) (h : ∀ k, k < np A → s k = t k) : HC A c d p s = HC A c d p t := by
  have ho : Op A c d s ↔ Op A c d t := Op_aw (fun k hk _ => h k hk)
  by_cases hs : s c = true
  · rw [HC_t hs, HC_t (by rw [← h c hc]; exact hs)]
  · have ht : ¬ t c = true := by rw [← h c hc]; exact hs
    by_cases o : Op A c d s
    · rw [HC_o hs o, HC_o ht (ho.mp o), WP_cong _ _ h]
    · rw [HC_n o, HC_n (fun e => o (ho.mpr e))]
theorem HR_cong {s t : Nat → Bool} (h : ∀ k, k < np A → s k = t k) : HR A c d p s = HR A c d p t := by
  have ho : Op A c d (fun k => !s k) ↔ Op A c d (fun k => !t k) := Op_aw (fun k hk _ => by rw [h k hk])
  by_cases o : Op A c d (fun k => !s k)
  · rw [HR_o o, HR_o (ho.mp o), WP_cong _ _ h]
  · rw [HR_n o, HR_n (fun e => o (ho.mpr e))]
def phi (n c k : Nat) : Bool := decide (k < n) && decide (k ≠ c)
theorem HR_HC (hc : c < np A) (t : Nat → Bool) : HR A c d p t = HC A c d p (flp (phi (np A) c) t) := by
  have fc : phi (np A) c c = false := by unfold phi; simp
  have fk : ∀ k, k < np A → k ≠ c → phi (np A) c k = true := fun k hk e => by unfold phi; simp [hk, e]
  have tc : flp (phi (np A) c) t c = t c := by unfold flp; rw [fc, Bool.xor_false]
  have hw := WP_RC (c := c) (p := p) (s := t) (np A) fk fc
  have ho : Op A c d (fun k => !t k) ↔ Op A c d (flp (phi (np A) c) t) := Op_aw (fun k hk e => by unfold flp; rw [fk k hk e, Bool.xor_true])
  by_cases hs : t c = true
  · rw [if_pos ⟨hc, hs⟩] at hw
    rw [HC_t (tc.trans hs)]
    by_cases o : Op A c d (fun k => !t k)
    · rw [HR_o o, hw]
    · exact HR_n o
  · rw [if_neg (fun z => hs z.2)] at hw
    by_cases o : Op A c d (fun k => !t k)
    · rw [HR_o o, HC_o (by rw [tc]; exact hs) (ho.mp o), hw]
    · rw [HR_n o, HC_n (fun e => o (ho.mpr e))]
noncomputable def abv (A : Tn) (c d p : Nat) : Nat := U (np A) (HC A c d p) (fun _ => false)
theorem bs_bn2 (m n : Nat) (s : Nat → Bool) (k : Nat) (hk : k < n) : bs m k = bn2 m n s k := by
  unfold bs bn2
  rw [if_pos hk]
theorem abv_C (hc : c < np A) : fb_sm (fun m => HC A c d p (bs m)) (2 ^ np A) = abv A c d p := by
  unfold abv
  rw [← U_sum]
  exact fb_sm_cong (fun m _ => HC_cong hc (fun k hk => bs_bn2 m _ _ k hk))
theorem abv_R (hc : c < np A) : fb_sm (fun m => HR A c d p (bs m)) (2 ^ np A) = abv A c d p := by
  unfold abv
  rw [fb_sm_cong (g := fun m => HR A c d p (bn2 m (np A) (fun _ => false))) (fun m _ => HR_cong (fun k hk => bs_bn2 m _ _ k hk)), U_sum, U_cong (np A) _ _ _ (HR_HC hc), U_flp]
  refine U_out _ _ _ _ (fun k hk => ?_)
  unfold flp phi
  simp only [Bool.false_xor]
  rw [decide_eq_false (by omega), Bool.false_and]
theorem blw_R (hc : c < np A) (hp : p ≤ 10) : fb_sm (fun m => WP (gR c p) (np A) (bs m)) (2 ^ np A) = 10 ^ (np A - 1) := by
  rw [fb_sm_cong (g := fun m => WP (gR c p) (np A) (bn2 m (np A) (fun _ => false))) (fun m _ => WP_cong _ _ (fun k hk => bs_bn2 m _ _ k hk)), U_sum, U_WP, PP_R hp, if_pos hc]
theorem abv_le (hc : c < np A) (hp : p ≤ 10) : abv A c d p ≤ 10 ^ (np A - 1) := by
  rw [← abv_R hc, ← blw_R hc hp]
  refine fb_sm_le (fun m _ => ?_)
  by_cases o : Op A c d (fun k => !bs m k)
  · rw [HR_o o]; exact Nat.le_refl _
  · rw [HR_n o]; exact Nat.zero_le _
end AWK
/-! the greatest common divisor -/
theorem lz {b : Nat} (hb : b < 2 ^ 63) : (lg_cmp (lN b) 0 = 0) ↔ b = 0 := by
  rw [cmp0]
  exact pk_lEQ (b := 0) hb (by decide)
theorem gcd_step (a b : Nat) : Nat.gcd b (a % b) = Nat.gcd a b := by
  rw [Nat.gcd_comm a b, Nat.gcd_rec b a, Nat.gcd_comm]
theorem half_mod {b r j : Nat} (h : b < 2 ^ (j + 1)) (hr : 0 < r) (hrb : r < b) : b % r < 2 ^ j := by
  have h1 := Nat.mod_lt b hr
  have h2 := Nat.div_add_mod b r
  have h3 : 1 ≤ b / r := (Nat.one_le_div_iff hr).mpr (by omega)
  have h4 : r * 1 ≤ r * (b / r) := Nat.mul_le_mul_left r h3
  rw [Nat.pow_succ] at h
  omega
theorem E8 {M : Mem} {Q : Int64 → Mem → Prop} : ∀ (j a b k : Nat), b < 2 ^ j → a < 2 ^ 63 → b < 2 ^ 63 → k + 2 * j ≤ 100 → Q (lN (Nat.gcd a b)) M → ∃ f, wL_X8_commonDivisor_3 Q f M (lN a) (lN b) (nI k) := by
  have stop : ∀ (a b k : Nat), b = 0 → Q (lN (Nat.gcd a b)) M → wL_X8_commonDivisor_3 Q 1 M (lN a) (lN b) (nI k) := by
    intro a b k hb q
    subst hb
    rw [Nat.gcd_zero_right] at q
    exact ⟨fun _ => q, fun _ => ⟨fun _ => q, fun e => absurd ((lz (by decide)).mpr rfl) e⟩⟩
  have step : ∀ (a b k f : Nat), ¬ b = 0 → a < 2 ^ 63 → b < 2 ^ 63 → k < 100 → wL_X8_commonDivisor_3 Q f M (lN b) (lN (a % b)) (nI (k + 1)) → wL_X8_commonDivisor_3 Q (f + 1) M (lN a) (lN b) (nI k) := by
    intro a b k f hb ha hb2 hk h
    refine ⟨fun e => absurd e (nI_ge (a := k) (b := 100) hk (by decide)), fun _ => ⟨fun e => absurd ((lz hb2).mp e) hb, fun _ => ⟨fun e => hb ((pk_lEQ (b := 0) hb2 (by decide)).mp e), fun v4 e4 v5 e5 => ?_⟩⟩⟩
    rw [pk_lRem ha (by omega) hb2] at e4
    rw [e4, e5, nI_1]
    exact h
  intro j
  induction j with
  | zero =>
    intro a b k hb ha hb2 hk q
    exact ⟨1, stop a b k (by simpa using hb) q⟩
  | succ j ih =>
    intro a b k hb ha hb2 hk q
    by_cases e : b = 0
    · exact ⟨1, stop a b k e q⟩
    · rw [← gcd_step] at q
      have hr : a % b < b := Nat.mod_lt _ (by omega)
      by_cases e2 : a % b = 0
      · exact ⟨2, step a b k 1 e ha hb2 (by omega) (stop b (a % b) (k + 1) e2 q)⟩
      · rw [← gcd_step] at q
        have hh := half_mod hb (show 0 < a % b by omega) hr
        have hr2 : b % (a % b) < a % b := Nat.mod_lt _ (by omega)
        obtain ⟨f, hf⟩ := ih (a % b) (b % (a % b)) (k + 2) hh (by omega) (by omega) (by omega) q
        exact ⟨f + 2, step a b k (f + 1) e ha hb2 (by omega) (step b (a % b) (k + 1) f e2 hb2 (by omega) (by omega) hf)⟩
theorem E9 {M : Mem} {x4 : Int32} {x5 x7 : Int64} {Q : Int64 → Mem → Prop} : ∀ (j a b : Nat), b < 2 ^ j → a < 2 ^ 63 → b < 2 ^ 63 → ¬ (lN (Nat.gcd a b)) = 0 → ((¬ x4 = 0 → Q (x7 / lN (Nat.gcd a b)) M) ∧ (x4 = 0 → Q (x5 / lN (Nat.gcd a b)) M)) → ∃ f, wL_X9_awake_189 Q f M x4 x5 x7 (lN a) (lN b) := by
  have stop : ∀ (a b : Nat), b = 0 → ¬ (lN (Nat.gcd a b)) = 0 → ((¬ x4 = 0 → Q (x7 / lN (Nat.gcd a b)) M) ∧ (x4 = 0 → Q (x5 / lN (Nat.gcd a b)) M)) → wL_X9_awake_189 Q 1 M x4 x5 x7 (lN a) (lN b) := by
    intro a b hb hn q
    subst hb
    rw [Nat.gcd_zero_right] at q hn
    exact ⟨fun _ => ⟨fun z => ⟨hn, q.1 z⟩, fun z => ⟨hn, q.2 z⟩⟩, fun e => absurd ((lz (by decide)).mpr rfl) e⟩
  have step : ∀ (a b f : Nat), ¬ b = 0 → a < 2 ^ 63 → b < 2 ^ 63 → wL_X9_awake_189 Q f M x4 x5 x7 (lN b) (lN (a % b)) → wL_X9_awake_189 Q (f + 1) M x4 x5 x7 (lN a) (lN b) := by
    intro a b f hb ha hb2 h
    refine ⟨fun e => absurd ((lz hb2).mp e) hb, fun _ => ⟨fun e => hb ((pk_lEQ (b := 0) hb2 (by decide)).mp e), fun v6 e6 => ?_⟩⟩
    rw [pk_lRem ha (by omega) hb2] at e6
    rw [e6]
    exact h
  intro j
  induction j with
  | zero =>
    intro a b hb ha hb2 hn q
    exact ⟨1, stop a b (by simpa using hb) hn q⟩
  | succ j ih =>
    intro a b hb ha hb2 hn q
    by_cases e : b = 0
    · exact ⟨1, stop a b e hn q⟩
    · rw [← gcd_step] at q hn
      have hr : a % b < b := Nat.mod_lt _ (by omega)
      by_cases e2 : a % b = 0
      · exact ⟨2, step a b 1 e ha hb2 (stop b (a % b) e2 hn q)⟩
      · rw [← gcd_step] at q hn
        have hh := half_mod hb (show 0 < a % b by omega) hr
        have hr2 : b % (a % b) < a % b := Nat.mod_lt _ (by omega)
        obtain ⟨f, hf⟩ := ih (a % b) (b % (a % b)) hh (by omega) (by omega) hn q
        exact ⟨f + 2, step a b (f + 1) e ha hb2 (step b (a % b) f e2 hb2 (by omega) hf)⟩
theorem W8_cases {M : Mem} {a N p : Nat} {Q : Int64 → Mem → Prop} (ha : a ≤ N) (hN : N ≤ 6) (hp : p ≤ 10) (q : Q (lN (p ^ a * (10 - p) ^ (N - a))) M) : w_X8_casesOf M (nI a) (nI N) (nI p) Q := by
  have e10 : (10 - nI p).toInt64 = lN (10 - p) := by
    rw [show (10 : Int32) = nI 10 from rfl, pk_sub hp, nI_l (by omega)]
  have go : ∀ m k : Nat, k + m = N → wL_X8_casesOf_5 Q (m + 1) M (nI a) (nI N) (nI p) (lN (if k ≤ a then p ^ k else p ^ a * (10 - p) ^ (k - a))) (nI k) := by
    intro m
    induction m with
    | zero =>
      intro k hk
      have hk : k = N := by omega
      subst hk
      refine ⟨fun _ => ?_, fun e => absurd (nI_le (Nat.le_refl _) (by omega)) e⟩
      by_cases e : k ≤ a
      · have : k = a := by omega
        subst this
        rw [if_pos e]
        rw [Nat.sub_self, Nat.pow_zero, Nat.mul_one] at q
        exact q
      · rw [if_neg e]; exact q
    | succ m ih =>
      intro k hk
      have hh := ih (k + 1) (by omega)
      refine ⟨fun e => absurd e (nI_ge (by omega) (by omega)), fun _ => ?_⟩
      rw [nI_leI (by omega) (by omega)]
      refine ⟨fun z v3 e3 v4 e4 => ?_, fun z v5 e5 v6 e6 => ?_⟩
      · rw [e10, lN_mul] at e3
        rw [e3, e4, nI_1]
        rw [if_neg (by omega)] at hh
        by_cases e : k = a
        · subst e
          rw [if_pos (Nat.le_refl _)]
          rw [show k + 1 - k = 1 by omega, Nat.pow_one] at hh
          exact hh
        · rw [if_neg (by omega), Nat.mul_assoc, ← Nat.pow_succ, show (k - a).succ = k + 1 - a by omega]
          exact hh
      · rw [nI_l (by omega), lN_mul] at e5
        rw [e5, e6, nI_1]
        rw [if_pos (by omega), Nat.pow_succ] at hh
        rw [if_pos (by omega)]
        exact hh
  exact ⟨N + 1, go N 0 (by omega)⟩
