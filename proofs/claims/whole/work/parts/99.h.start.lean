/-! the world as the two constructors leave it -/
def adF (q g : Nat → Nat) : Nat → Nat := fun k => if k < 85 then q k else g (k - 85)
theorem adF_8 {q g : Nat → Nat} {j : Nat} (hj : j < 8) : some (q (3 + 2 * j)) = some (adF q g (3 + 2 * j)) := by
  unfold adF
  rw [if_pos (by omega)]
theorem adF_2 {q g : Nat → Nat} {j : Nat} (hj : j < 2) : some (q (63 + 11 * j)) = some (adF q g (63 + 11 * j)) := by
  unfold adF
  rw [if_pos (by omega)]
def ws93 (X : Cx) (q g : Nat → Nat) : va_W := ((BkX8 X q ++ BkX9 X g).set 1 (q 1, .inl (cy X 2, 8, .inr (.inr (.inr (.inr (fun i => some (adF q g (3 + 2 * i))))))))).set 2 (q 2, .inl (cy X 3, 2, .inr (.inr (.inr (.inr (fun i => some (adF q g (63 + 11 * i))))))))
set_option maxHeartbeats 8000000 in
set_option maxRecDepth 100000 in
theorem ws_all (dC : Nat → ClassId) (dI : Nat → Nat → Nat) (a0 : Nat → Nat) (cyF : Nat → ClassId) (saF : Nat → Nat) (q g : Nat → Nat) : ws93 (dC, dI, a0, cyF, saF) q g = wsA (dC, dI, adF q g, cyF, saF) M0 := rfl
