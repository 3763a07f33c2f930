/-! what a TOWN's text says, up to its first FAULT -/
abbrev NT : Type := Nat → Nat → Nat
abbrev Rs : Type := Sum (Nat × Nat) (Nat × NT)
def n2 (B : NT) (f i v : Nat) : NT := fun g j => if g = f ∧ j = i then v else B g j
def tw (B : NT) : Tn := fun f i => if f = 10 then -1000000 else nI (B f i)
theorem tw_at {B : NT} {f i : Nat} (h : f ≠ 10) : tw B f i = nI (B f i) := if_neg h
def Bz : NT := fun _ _ => 0
def B0 (r f : Nat) : NT := n2 (n2 Bz 0 0 r) 0 1 f
def adD (B : NT) (a b : Nat) : NT := n2 (n2 (n2 B 1 (B 0 2) a) 2 (B 0 2) b) 0 2 (B 0 2 + 1)
def adP (B : NT) (k r b : Nat) : NT := n2 (n2 (n2 (n2 B 3 (B 0 3) k) 4 (B 0 3) r) 5 (B 0 3) b) 0 3 (B 0 3 + 1)
def adT (B : NT) (f a b : Nat) : NT := n2 (n2 (n2 B f a (B f a ||| 2 ^ b)) f b (B f b ||| 2 ^ a)) 0 4 (B 0 4 + 1)
theorem adD_v (B : NT) (a b : Nat) : adD B a b 0 2 = B 0 2 + 1 ∧ (∀ j, j ≠ 2 → adD B a b 0 j = B 0 j) ∧ (∀ d, adD B a b 1 d = if d = B 0 2 then a else B 1 d) ∧ (∀ d, adD B a b 2 d = if d = B 0 2 then b else B 2 d) ∧ ∀ f i, 3 ≤ f → adD B a b f i = B f i := by
  unfold adD n2
  refine ⟨?_, ?_, ?_, ?_, ?_⟩ <;> intros <;> (repeat' split) <;> first | rfl | (exfalso; omega)
theorem adP_v (B : NT) (k r b : Nat) : adP B k r b 0 3 = B 0 3 + 1 ∧ (∀ j, j ≠ 3 → adP B k r b 0 j = B 0 j) ∧ (∀ p, adP B k r b 3 p = if p = B 0 3 then k else B 3 p) ∧ (∀ p, adP B k r b 4 p = if p = B 0 3 then r else B 4 p) ∧ (∀ p, adP B k r b 5 p = if p = B 0 3 then b else B 5 p) ∧ ∀ f i, f ≠ 0 → ¬ (3 ≤ f ∧ f ≤ 5) → adP B k r b f i = B f i := by
  unfold adP n2
  refine ⟨?_, ?_, ?_, ?_, ?_, ?_⟩ <;> intros <;> (repeat' split) <;> first | rfl | (exfalso; omega)
theorem adT_v (B : NT) {f a b : Nat} (hf : f ≠ 0) : adT B f a b 0 4 = B 0 4 + 1 ∧ (∀ j, j ≠ 4 → adT B f a b 0 j = B 0 j) ∧ (∀ p, adT B f a b f p = if p = b then B f b ||| 2 ^ a else if p = a then B f a ||| 2 ^ b else B f p) ∧ ∀ g i, g ≠ 0 → g ≠ f → adT B f a b g i = B g i := by
  unfold adT n2
  refine ⟨?_, ?_, ?_, ?_⟩ <;> intros <;> (repeat' split) <;> first | rfl | (exfalso; omega)
def GB (B : NT) : Prop := (2 ≤ B 0 0 ∧ B 0 0 ≤ 6 ∧ B 0 1 ≤ 9 ∧ B 0 2 ≤ 6 ∧ B 0 3 ≤ 6 ∧ B 0 4 ≤ 8 ∧ B 0 5 = 0) ∧ (∀ d, d < B 0 2 → B 1 d < B 0 0 ∧ B 2 d < B 0 0 ∧ B 1 d ≠ B 2 d) ∧ (∀ p, p < B 0 3 → 1 ≤ B 3 p ∧ B 3 p ≤ 5 ∧ B 4 p < B 0 0 ∧ B 5 p ≤ 6) ∧ (∀ p, B 6 p = 0 ∧ B 7 p < 64 ∧ B 8 p < 64 ∧ (B 0 3 ≤ p → B 7 p = 0 ∧ B 8 p = 0)) ∧ ∀ i, B 9 i = 0
theorem B0_v (r f : Nat) : B0 r f 0 0 = r ∧ B0 r f 0 1 = f ∧ (∀ j, 2 ≤ j → B0 r f 0 j = 0) ∧ ∀ g j, g ≠ 0 → B0 r f g j = 0 := by
  unfold B0 n2 Bz
  refine ⟨?_, ?_, ?_, ?_⟩ <;> intros <;> (repeat' split) <;> first | rfl | (exfalso; omega)
theorem GB_0 {r f : Nat} (h1 : 2 ≤ r) (h2 : r ≤ 6) (h3 : f ≤ 9) : GB (B0 r f) := by
  obtain ⟨a1, a2, a3, a4⟩ := B0_v r f
  unfold GB
  rw [a1, a2, a3 2 (by decide), a3 3 (by decide), a3 4 (by decide), a3 5 (by decide)]
  refine ⟨by omega, fun d hd => by omega, fun p hp => by omega, fun p => ?_, fun i => a4 9 i (by decide)⟩
  rw [a4 6 p (by decide), a4 7 p (by decide), a4 8 p (by decide)]
  exact ⟨rfl, by decide, by decide, fun _ => ⟨rfl, rfl⟩⟩
theorem GB_D {B : NT} {a b : Nat} (h : GB B) (h6 : B 0 2 < 6) (ha : a < B 0 0) (hb : b < B 0 0) (hab : b ≠ a) : GB (adD B a b) := by
  obtain ⟨a1, a2, a3, a4, a5⟩ := adD_v B a b
  obtain ⟨h0, hd, hp, hq, h9⟩ := h
  unfold GB
  rw [a1, a2 0 (by decide), a2 1 (by decide), a2 3 (by decide), a2 4 (by decide), a2 5 (by decide)]
  refine ⟨by omega, fun d hd2 => ?_, fun p hp2 => ?_, fun p => ?_, fun i => ?_⟩
  · rw [a3, a4]
    by_cases e : d = B 0 2
    · rw [if_pos e, if_pos e]; omega
    · rw [if_neg e, if_neg e]; exact hd d (by omega)
  · rw [a5 _ _ (by decide), a5 _ _ (by decide), a5 _ _ (by decide)]; exact hp p hp2
  · rw [a5 _ _ (by decide), a5 _ _ (by decide), a5 _ _ (by decide)]; exact hq p
  · rw [a5 _ _ (by decide)]; exact h9 i
theorem GB_P {B : NT} {k r b : Nat} (h : GB B) (h6 : B 0 3 < 6) (hk1 : 1 ≤ k) (hk5 : k ≤ 5) (hr : r < B 0 0) (hb : b ≤ 6) : GB (adP B k r b) := by
  obtain ⟨a1, a2, a3, a4, a5, a6⟩ := adP_v B k r b
  obtain ⟨h0, hd, hp, hq, h9⟩ := h
  unfold GB
  rw [a1, a2 0 (by decide), a2 1 (by decide), a2 2 (by decide), a2 4 (by decide), a2 5 (by decide)]
  refine ⟨by omega, fun d hd2 => ?_, fun p hp2 => ?_, fun p => ?_, fun i => ?_⟩
  · rw [a6 _ _ (by decide) (by decide), a6 _ _ (by decide) (by decide)]; exact hd d hd2
  · rw [a3, a4, a5]
    by_cases e : p = B 0 3
    · rw [if_pos e, if_pos e, if_pos e]; omega
    · rw [if_neg e, if_neg e, if_neg e]; exact hp p (by omega)
  · rw [a6 _ _ (by decide) (by decide), a6 _ _ (by decide) (by decide), a6 _ _ (by decide) (by decide)]
    have := hq p
    exact ⟨this.1, this.2.1, this.2.2.1, fun e => this.2.2.2 (by omega)⟩
  · rw [a6 _ _ (by decide) (by decide)]; exact h9 i
theorem or64 {x k : Nat} (hx : x < 64) (hk : k < 6) : x ||| 2 ^ k < 64 := Nat.or_lt_two_pow (n := 6) hx (Nat.pow_lt_pow_right (by decide) hk)
theorem GB_T {B : NT} {f a b : Nat} (h : GB B) (h8 : B 0 4 < 8) (hf : f = 7 ∨ f = 8) (ha : a < B 0 3) (hb : b < B 0 3) : GB (adT B f a b) := by
  obtain ⟨a1, a2, a3, a4⟩ := adT_v B (f := f) (a := a) (b := b) (by omega)
  obtain ⟨h0, hd, hp, hq, h9⟩ := h
  unfold GB
  rw [a1, a2 0 (by decide), a2 1 (by decide), a2 2 (by decide), a2 3 (by decide), a2 5 (by decide)]
  refine ⟨by omega, fun d hd2 => ?_, fun p hp2 => ?_, fun p => ?_, fun i => ?_⟩
  · rw [a4 _ _ (by decide) (by omega), a4 _ _ (by decide) (by omega)]; exact hd d hd2
  · rw [a4 _ _ (by decide) (by omega), a4 _ _ (by decide) (by omega), a4 _ _ (by decide) (by omega)]; exact hp p hp2
  · have q := hq p
    have key : ∀ g, g = 7 ∨ g = 8 → adT B f a b g p < 64 ∧ (B 0 3 ≤ p → adT B f a b g p = 0) := by
      intro g hg
      have w : ∀ z, B g z < 64 := fun z => by
        rcases hg with e | e <;> subst e
        · exact (hq z).2.1
        · exact (hq z).2.2.1
      have w0 : B 0 3 ≤ p → B g p = 0 := fun e => by
        rcases hg with e2 | e2 <;> subst e2
        · exact (q.2.2.2 e).1
        · exact (q.2.2.2 e).2
      by_cases e : g = f
      · subst e
        rw [a3]
        by_cases e1 : p = b
        · rw [if_pos e1]; exact ⟨or64 (w b) (by omega), fun z => by omega⟩
        · rw [if_neg e1]
          by_cases e2 : p = a
          · rw [if_pos e2]; exact ⟨or64 (w a) (by omega), fun z => by omega⟩
          · rw [if_neg e2]; exact ⟨w p, w0⟩
      · rw [a4 _ _ (by omega) e]; exact ⟨w p, w0⟩
    rw [a4 6 _ (by decide) (by omega)]
    exact ⟨q.1, (key 7 (Or.inl rfl)).1, (key 8 (Or.inr rfl)).1, fun e => ⟨(key 7 (Or.inl rfl)).2 e, (key 8 (Or.inr rfl)).2 e⟩⟩
  · rw [a4 _ _ (by decide) (by omega)]; exact h9 i
/-- a TOWN that is whole -/
theorem GB_V {B : NT} (h : GB B) (hd : 0 < B 0 2) (hp : 0 < B 0 3) : V (tw B) ∧ nr (tw B) = B 0 0 ∧ nd (tw B) = B 0 2 ∧ np (tw B) = B 0 3 ∧ na (tw B) 0 5 = 0 := by
  obtain ⟨h0, h1, h2, h3, h9⟩ := h
  have nat : ∀ f i, f ≠ 10 → B f i < 2 ^ 31 → na (tw B) f i = B f i := fun f i hf hb => by
    unfold na; rw [tw_at hf, ix_nat hb]
  have e0 : nr (tw B) = B 0 0 := nat 0 0 (by decide) (by omega)
  have e2 : nd (tw B) = B 0 2 := nat 0 2 (by decide) (by omega)
  have e3 : np (tw B) = B 0 3 := nat 0 3 (by decide) (by omega)
  refine ⟨?_, e0, e2, e3, by rw [nat 0 5 (by decide) (by omega)]; omega⟩
  unfold V
  rw [e0, e2, e3, nat 0 1 (by decide) (by omega), nat 0 4 (by decide) (by omega), nat 0 5 (by decide) (by omega)]
  refine ⟨⟨tw_at (by decide), by omega, tw_at (by decide), by omega, tw_at (by decide), by omega, tw_at (by decide), by omega, tw_at (by decide), by omega, tw_at (by decide), by omega, by omega, by omega⟩, fun d hd2 => ?_, fun p hp2 => ?_, fun p d _ _ => ?_⟩
  · have q := h1 d hd2
    rw [nat 1 d (by decide) (by omega), nat 2 d (by decide) (by omega)]
    exact ⟨tw_at (by decide), tw_at (by decide), q.1, q.2.1, q.2.2⟩
  · have q := h2 p hp2
    have w := h3 p
    rw [nat 3 p (by decide) (by omega), nat 4 p (by decide) (by omega), nat 5 p (by decide) (by omega), nat 7 p (by decide) (by omega), nat 8 p (by decide) (by omega)]
    have e6 : (tw B 6 p).toInt = 0 := by rw [tw_at (by decide), w.1]; decide
    rw [e6]
    exact ⟨tw_at (by decide), q.1, q.2.1, tw_at (by decide), q.2.2.1, tw_at (by decide), q.2.2.2, by decide, by decide, tw_at (by decide), w.2.1, tw_at (by decide), w.2.2.1⟩
  · rw [nat 9 _ (by decide) (by rw [h9]; decide), h9]
    exact ⟨by rw [tw_at (by decide), h9], by decide⟩
def kL (x : Int32) : Nat := if x = 112 then 1 else if x = 102 then 2 else if x = 115 then 3 else if x = 107 then 4 else if x = 110 then 5 else 0
def laS (t : Nat → Int32) (L : Nat) : Rs := if 0 < L ∧ t 0 = 104 then (match pa t L 1 2 6 no1 44 with
  | .inl e => .inl e
  | .inr (a, j) => match pa t L j 0 9 no1 59 with
    | .inl e => .inl e
    | .inr (b, k) => .inr (k, B0 a b)) else .inl (1, 0)
def drS (t : Nat → Int32) (L : Nat) : Nat → Nat → NT → Rs
  | 0, i, B => .inr (i, B)
  | n + 1, i, B => if i < L ∧ t i = 100 then (if B 0 2 = 6 then .inl (3, i) else match pa t L (i + 1) 0 (B 0 0 - 1) no1 44 with
    | .inl e => .inl e
    | .inr (a, j) => match pa t L j 0 (B 0 0 - 1) (fun v => decide (v = a)) 59 with
      | .inl e => .inl e
      | .inr (b, k) => drS t L n k (adD B a b)) else .inr (i, B)
def peS (t : Nat → Int32) (L : Nat) : Nat → Nat → NT → Rs
  | 0, i, B => .inr (i, B)
  | n + 1, i, B => if i < L ∧ kL (t i) ≠ 0 then (if B 0 3 = 6 then .inl (3, i) else match pa t L (i + 1) 0 (B 0 0 - 1) no1 44 with
    | .inl e => .inl e
    | .inr (a, j) => match pa t L j 0 6 no1 59 with
      | .inl e => .inl e
      | .inr (b, k) => peS t L n k (adP B (kL (t i)) a b)) else .inr (i, B)
def tiB (B : NT) (a : Nat) : Nat → Bool := fun v => (2 ^ a ||| (B 7 a ||| B 8 a)).testBit v
def tiS (t : Nat → Int32) (L : Nat) : Nat → Nat → NT → Rs
  | 0, i, B => .inr (i, B)
  | n + 1, i, B => if i < L then (if t i = 105 ∨ t i = 117 then (if B 0 4 = 8 then .inl (3, i) else match pa t L (i + 1) 0 (B 0 3 - 1) no1 44 with
    | .inl e => .inl e
    | .inr (a, j) => match pa t L j 0 (B 0 3 - 1) (tiB B a) 59 with
      | .inl e => .inl e
      | .inr (b, k) => tiS t L n k (adT B (if t i = 105 then 7 else 8) a b)) else .inl (1, i)) else .inr (i, B)
def dr0 (t : Nat → Int32) (L k : Nat) (B : NT) : Rs := if k < L ∧ t k = 100 then drS t L 7 k B else .inl (1, k)
def pe0 (t : Nat → Int32) (L k : Nat) (B : NT) : Rs := if k < L ∧ kL (t k) ≠ 0 then peS t L 7 k B else .inl (1, k)
section EQ
variable {t : Nat → Int32} {L n i j k a b : Nat} {B : NT} {e : Nat × Nat}
theorem laS_x (h : ¬ (0 < L ∧ t 0 = 104)) : laS t L = .inl (1, 0) := if_neg h
theorem laS_1 (h : 0 < L ∧ t 0 = 104) (e1 : pa t L 1 2 6 no1 44 = .inl e) : laS t L = .inl e := by
  simp only [laS, if_pos h, e1]
theorem laS_2 (h : 0 < L ∧ t 0 = 104) (e1 : pa t L 1 2 6 no1 44 = .inr (a, j)) (e2 : pa t L j 0 9 no1 59 = .inl e) : laS t L = .inl e := by
  simp only [laS, if_pos h, e1, e2]
theorem laS_3 (h : 0 < L ∧ t 0 = 104) (e1 : pa t L 1 2 6 no1 44 = .inr (a, j)) (e2 : pa t L j 0 9 no1 59 = .inr (b, k)) : laS t L = .inr (k, B0 a b) := by
  simp only [laS, if_pos h, e1, e2]
theorem drS_x (h : ¬ (i < L ∧ t i = 100)) : drS t L (n + 1) i B = .inr (i, B) := by
  simp only [drS, if_neg h]
theorem drS_6 (h : i < L ∧ t i = 100) (h6 : B 0 2 = 6) : drS t L (n + 1) i B = .inl (3, i) := by
  simp only [drS, if_pos h, if_pos h6]
theorem drS_1 (h : i < L ∧ t i = 100) (h6 : ¬ B 0 2 = 6) (e1 : pa t L (i + 1) 0 (B 0 0 - 1) no1 44 = .inl e) : drS t L (n + 1) i B = .inl e := by
  simp only [drS, if_pos h, if_neg h6, e1]
theorem drS_2 (h : i < L ∧ t i = 100) (h6 : ¬ B 0 2 = 6) (e1 : pa t L (i + 1) 0 (B 0 0 - 1) no1 44 = .inr (a, j)) (e2 : pa t L j 0 (B 0 0 - 1) (fun v => decide (v = a)) 59 = .inl e) : drS t L (n + 1) i B = .inl e := by
  simp only [drS, if_pos h, if_neg h6, e1, e2]
theorem drS_3 (h : i < L ∧ t i = 100) (h6 : ¬ B 0 2 = 6) (e1 : pa t L (i + 1) 0 (B 0 0 - 1) no1 44 = .inr (a, j)) (e2 : pa t L j 0 (B 0 0 - 1) (fun v => decide (v = a)) 59 = .inr (b, k)) : drS t L (n + 1) i B = drS t L n k (adD B a b) := by
  simp only [drS, if_pos h, if_neg h6, e1, e2]
theorem peS_x (h : ¬ (i < L ∧ kL (t i) ≠ 0)) : peS t L (n + 1) i B = .inr (i, B) := by
  simp only [peS, if_neg h]
theorem peS_6 (h : i < L ∧ kL (t i) ≠ 0) (h6 : B 0 3 = 6) : peS t L (n + 1) i B = .inl (3, i) := by
  simp only [peS, if_pos h, if_pos h6]
theorem peS_1 (h : i < L ∧ kL (t i) ≠ 0) (h6 : ¬ B 0 3 = 6) (e1 : pa t L (i + 1) 0 (B 0 0 - 1) no1 44 = .inl e) : peS t L (n + 1) i B = .inl e := by
  simp only [peS, if_pos h, if_neg h6, e1]
theorem peS_2 (h : i < L ∧ kL (t i) ≠ 0) (h6 : ¬ B 0 3 = 6) (e1 : pa t L (i + 1) 0 (B 0 0 - 1) no1 44 = .inr (a, j)) (e2 : pa t L j 0 6 no1 59 = .inl e) : peS t L (n + 1) i B = .inl e := by
  simp only [peS, if_pos h, if_neg h6, e1, e2]
theorem peS_3 (h : i < L ∧ kL (t i) ≠ 0) (h6 : ¬ B 0 3 = 6) (e1 : pa t L (i + 1) 0 (B 0 0 - 1) no1 44 = .inr (a, j)) (e2 : pa t L j 0 6 no1 59 = .inr (b, k)) : peS t L (n + 1) i B = peS t L n k (adP B (kL (t i)) a b) := by
  simp only [peS, if_pos h, if_neg h6, e1, e2]
theorem tiS_x (h : ¬ i < L) : tiS t L (n + 1) i B = .inr (i, B) := by
  simp only [tiS, if_neg h]
theorem tiS_0 (h : i < L) (h2 : ¬ (t i = 105 ∨ t i = 117)) : tiS t L (n + 1) i B = .inl (1, i) := by
  simp only [tiS, if_pos h, if_neg h2]
theorem tiS_6 (h : i < L) (h2 : t i = 105 ∨ t i = 117) (h6 : B 0 4 = 8) : tiS t L (n + 1) i B = .inl (3, i) := by
  simp only [tiS, if_pos h, if_pos h2, if_pos h6]
theorem tiS_1 (h : i < L) (h2 : t i = 105 ∨ t i = 117) (h6 : ¬ B 0 4 = 8) (e1 : pa t L (i + 1) 0 (B 0 3 - 1) no1 44 = .inl e) : tiS t L (n + 1) i B = .inl e := by
  simp only [tiS, if_pos h, if_pos h2, if_neg h6, e1]
theorem tiS_2 (h : i < L) (h2 : t i = 105 ∨ t i = 117) (h6 : ¬ B 0 4 = 8) (e1 : pa t L (i + 1) 0 (B 0 3 - 1) no1 44 = .inr (a, j)) (e2 : pa t L j 0 (B 0 3 - 1) (tiB B a) 59 = .inl e) : tiS t L (n + 1) i B = .inl e := by
  simp only [tiS, if_pos h, if_pos h2, if_neg h6, e1, e2]
theorem tiS_3 (h : i < L) (h2 : t i = 105 ∨ t i = 117) (h6 : ¬ B 0 4 = 8) (e1 : pa t L (i + 1) 0 (B 0 3 - 1) no1 44 = .inr (a, j)) (e2 : pa t L j 0 (B 0 3 - 1) (tiB B a) 59 = .inr (b, k)) : tiS t L (n + 1) i B = tiS t L n k (adT B (if t i = 105 then 7 else 8) a b) := by
  simp only [tiS, if_pos h, if_pos h2, if_neg h6, e1, e2]
end EQ
