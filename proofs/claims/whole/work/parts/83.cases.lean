/-! sums over sets -/
def su (s : Nat → Bool) (n : Nat) (b : Bool) : Nat → Bool := fun k => if k = n then b else s k
def U : Nat → ((Nat → Bool) → Nat) → (Nat → Bool) → Nat
  | 0, H, s => H s
  | n + 1, H, s => U n H (su s n false) + U n H (su s n true)
def flp (f s : Nat → Bool) : Nat → Bool := fun k => Bool.xor (s k) (f k)
theorem su_flp (f s : Nat → Bool) (n : Nat) (b : Bool) : flp f (su s n b) = su (flp f s) n (Bool.xor b (f n)) := by
  funext k
  unfold flp su
  by_cases e : k = n
  · rw [if_pos e, if_pos e, e]
  · rw [if_neg e, if_neg e]
theorem U_flp (f : Nat → Bool) : ∀ (n : Nat) (H : (Nat → Bool) → Nat) (s : Nat → Bool), U n (fun t => H (flp f t)) s = U n H (flp f s)
  | 0, H, s => rfl
  | n + 1, H, s => by
    unfold U
    rw [U_flp f n H, U_flp f n H, su_flp, su_flp]
    cases f n
    · rfl
    · exact Nat.add_comm _ _
theorem U_out : ∀ (n : Nat) (H : (Nat → Bool) → Nat) (s t : Nat → Bool), (∀ k, n ≤ k → s k = t k) → U n H s = U n H t
  | 0, H, s, t, h => by
    have : s = t := funext fun k => h k (Nat.zero_le _)
    rw [this]
  | n + 1, H, s, t, h => by
    unfold U
    have key : ∀ b, ∀ k, n ≤ k → su s n b k = su t n b k := by
      intro b k hk
      unfold su
      by_cases e : k = n
      · rw [if_pos e, if_pos e]
      · rw [if_neg e, if_neg e]; exact h k (by omega)
    rw [U_out n H _ _ (key false), U_out n H _ _ (key true)]
theorem U_le : ∀ (n : Nat) (H K : (Nat → Bool) → Nat) (s : Nat → Bool), (∀ t, H t ≤ K t) → U n H s ≤ U n K s
  | 0, H, K, s, h => h s
  | n + 1, H, K, s, h => by
    unfold U
    exact Nat.add_le_add (U_le n H K _ h) (U_le n H K _ h)
theorem U_cong : ∀ (n : Nat) (H K : (Nat → Bool) → Nat) (s : Nat → Bool), (∀ t, H t = K t) → U n H s = U n K s := fun n H K s h => by
  have : H = K := funext h
  rw [this]
theorem U_fix (n : Nat) (r : Bool → Nat) (K : (Nat → Bool) → Nat) : ∀ (j : Nat) (s : Nat → Bool), j ≤ n → U j (fun t => K t * r (t n)) s = U j K s * r (s n)
  | 0, s, _ => rfl
  | j + 1, s, h => by
    unfold U
    rw [U_fix n r K j _ (by omega), U_fix n r K j _ (by omega)]
    have e : ∀ b, su s j b n = s n := fun b => by unfold su; rw [if_neg (by omega)]
    rw [e, e, Nat.add_mul]
def WP (g : Nat → Bool → Nat) : Nat → (Nat → Bool) → Nat
  | 0, _ => 1
  | n + 1, s => WP g n s * g n (s n)
def PP (g : Nat → Bool → Nat) : Nat → Nat
  | 0 => 1
  | n + 1 => PP g n * (g n false + g n true)
theorem U_WP (g : Nat → Bool → Nat) : ∀ (n : Nat) (s : Nat → Bool), U n (WP g n) s = PP g n
  | 0, s => rfl
  | n + 1, s => by
    show U n (fun t => WP g n t * g n (t n)) _ + U n (fun t => WP g n t * g n (t n)) _ = _
    rw [U_fix n (g n) (WP g n) n _ (Nat.le_refl _), U_fix n (g n) (WP g n) n _ (Nat.le_refl _), U_WP g n, U_WP g n]
    have e : ∀ b, su s n b n = b := fun b => by unfold su; rw [if_pos rfl]
    rw [e, e]
    show _ = PP g n * (g n false + g n true)
    rw [Nat.mul_add]
/-- the bits of m below n, and s above -/
def bn2 (m n : Nat) (s : Nat → Bool) : Nat → Bool := fun k => if k < n then m.testBit k else s k
theorem bn2_lo {m n : Nat} {s : Nat → Bool} (hm : m < 2 ^ n) : bn2 m (n + 1) s = bn2 m n (su s n false) := by
  funext k
  unfold bn2 su
  by_cases e : k = n
  · rw [if_pos (by omega), if_neg (by omega), if_pos e, e, Nat.testBit_lt_two_pow hm]
  · by_cases h : k < n
    · rw [if_pos (by omega), if_pos h]
    · rw [if_neg (by omega), if_neg h, if_neg e]
theorem bn2_hi {m n : Nat} {s : Nat → Bool} (hm : m < 2 ^ n) : bn2 (2 ^ n + m) (n + 1) s = bn2 m n (su s n true) := by
  funext k
  unfold bn2 su
  by_cases e : k = n
  · rw [if_pos (by omega), if_neg (by omega), if_pos e, e, Nat.testBit_two_pow_add_eq, Nat.testBit_lt_two_pow hm]
    rfl
  · by_cases h : k < n
    · rw [if_pos (by omega), if_pos h, Nat.testBit_two_pow_add_gt h]
    · rw [if_neg (by omega), if_neg h, if_neg e]
theorem U_sum : ∀ (n : Nat) (H : (Nat → Bool) → Nat) (s : Nat → Bool), fb_sm (fun m => H (bn2 m n s)) (2 ^ n) = U n H s
  | 0, H, s => by
    show 0 + H (bn2 0 0 s) = H s
    rw [Nat.zero_add]
    congr 1
  | n + 1, H, s => by
    rw [show 2 ^ (n + 1) = 2 ^ n + 2 ^ n by rw [Nat.pow_succ]; omega, fb_sm_split]
    rw [fb_sm_cong (g := fun m => H (bn2 m n (su s n false))) (fun m hm => by rw [bn2_lo hm]), fb_sm_cong (f := fun k => H (bn2 (2 ^ n + k) (n + 1) s)) (g := fun m => H (bn2 m n (su s n true))) (fun m hm => by rw [bn2_hi hm]), U_sum n H, U_sum n H]
    rfl
/-! those awake by chance -/
/-- cases of the reference: c isn't among those asleep; of those asleep 10 - p, of the others p -/
def gR (c p k : Nat) (b : Bool) : Nat := if k = c then (if b then 0 else 1) else if b then 10 - p else p
/-- the same, without c -/
def gC (c p k : Nat) (b : Bool) : Nat := if k = c then 1 else if b then p else 10 - p
theorem PP_R {c p : Nat} (hp : p ≤ 10) : ∀ n, PP (gR c p) n = if c < n then 10 ^ (n - 1) else 10 ^ n
  | 0 => by rw [if_neg (by omega)]; rfl
  | n + 1 => by
    unfold PP
    rw [PP_R hp n]
    by_cases e : n = c
    · subst e
      rw [if_neg (by omega), if_pos (by omega)]
      unfold gR
      simp
    · have h10 : gR c p n false + gR c p n true = 10 := by
        unfold gR
        rw [if_neg e, if_neg e, if_neg (by decide), if_pos rfl]
        omega
      rw [h10]
      by_cases h : c < n
      · rw [if_pos h, if_pos (by omega), ← Nat.pow_succ]
        congr 1
        omega
      · rw [if_neg h, if_neg (by omega), ← Nat.pow_succ]
/-- seen from those awake -/
theorem WP_RC {c p : Nat} {f s : Nat → Bool} : ∀ n, (∀ k, k < n → k ≠ c → f k = true) → f c = false → WP (gR c p) n s = (if c < n ∧ s c = true then 0 else WP (gC c p) n (flp f s))
  | 0, _, _ => by rw [if_neg (by omega)]; rfl
  | n + 1, hf, hc => by
    have ih := WP_RC (p := p) (s := s) n (fun k hk => hf k (by omega)) hc
    unfold WP
    rw [ih]
    by_cases e : n = c
    · subst e
      rw [if_neg (by omega)]
      unfold gR gC
      rw [if_pos rfl, if_pos rfl]
      cases hs : s n
      · rw [if_neg (by decide), if_neg (fun h => absurd h.2 (by decide))]
      · rw [if_pos rfl, if_pos ⟨by omega, rfl⟩, Nat.mul_zero]
    · have hfn : flp f s n = !s n := by
        unfold flp
        rw [hf n (by omega) e, Bool.xor_true]
      have hg : gR c p n (s n) = gC c p n (flp f s n) := by
        unfold gR gC
        rw [if_neg e, if_neg e, hfn]
        cases s n <;> rfl
      rw [hg]
      by_cases h : c < n ∧ s c = true
      · rw [if_pos h, if_pos ⟨by omega, h.2⟩, Nat.zero_mul]
      · rw [if_neg h, if_neg (fun z => h ⟨by omega, z.2⟩)]
/-- as powers -/
theorem WP_pow {c p : Nat} {s : Nat → Bool} (hs : s c = false) : ∀ n, fb_ct s n ≤ (if c < n then n - 1 else n) ∧ WP (gC c p) n s = p ^ fb_ct s n * (10 - p) ^ ((if c < n then n - 1 else n) - fb_ct s n)
  | 0 => by rw [if_neg (by omega)]; exact ⟨Nat.le_refl _, rfl⟩
  | n + 1 => by
    obtain ⟨h1, h2⟩ := WP_pow (p := p) hs n
    unfold WP
    rw [fb_ct_succ, h2]
    by_cases e : n = c
    · subst e
      have z1 : (if n < n then n - 1 else n) = n := if_neg (by omega)
      have z2 : (if n < n + 1 then n + 1 - 1 else n + 1) = n := by rw [if_pos (by omega)]; omega
      rw [z1] at h1 ⊢
      rw [z2, hs, if_neg (by decide), Nat.add_zero]
      unfold gC
      rw [if_pos rfl, Nat.mul_one]
      exact ⟨h1, rfl⟩
    · have hm : (if c < n + 1 then n + 1 - 1 else n + 1) = (if c < n then n - 1 else n) + 1 := by
        by_cases h : c < n
        · rw [if_pos h, if_pos (by omega)]; omega
        · rw [if_neg h, if_neg (by omega)]
      rw [hm]
      generalize (if c < n then n - 1 else n) = q at h1
      unfold gC
      rw [if_neg e]
      cases s n
      · rw [if_neg (by decide), if_neg (by decide), Nat.add_zero]
        refine ⟨by omega, ?_⟩
        rw [show q + 1 - fb_ct s n = (q - fb_ct s n) + 1 by omega, Nat.pow_succ, Nat.mul_assoc]
      · rw [if_pos rfl, if_pos rfl]
        refine ⟨by omega, ?_⟩
        rw [show q + 1 - (fb_ct s n + 1) = q - fb_ct s n by omega, Nat.pow_succ, Nat.mul_assoc, Nat.mul_comm ((10 - p) ^ _) p, ← Nat.mul_assoc]
