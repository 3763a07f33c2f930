theorem at_ext {D : va_G} {cl : List vw_C} {a n : Nat} {cA : ClassId} {f g : Nat → Int32} {H : Heap} (h : ∀ j, j < n → f j = g j) (hh : va_at D cl (a, .inl (cA, n, .inl f)) H) : va_at D cl (a, .inl (cA, n, .inl g)) H := by
  have hh : H[a]? = some (arrV cA n (fun j => .int (f j))) := hh
  show H[a]? = some (arrV cA n (fun j => .int (g j)))
  have e : (fun j : Fin n => Value.int (f j.val)) = fun j : Fin n => Value.int (g j.val) := funext fun j => by rw [h j.val j.isLt]
  rw [hh]
  unfold arrV
  rw [e]
theorem at_extq {D : va_G} {cl : List vw_C} {a n : Nat} {cA : ClassId} {f g : Nat → Option Nat} {H : Heap} (h : ∀ j, j < n → f j = g j) (hh : va_at D cl (a, .inl (cA, n, .inr (.inr (.inr (.inr f))))) H) : va_at D cl (a, .inl (cA, n, .inr (.inr (.inr (.inr g))))) H := by
  have hh : H[a]? = some (arrV cA n (fun j => va_rf (f j))) := hh
  show H[a]? = some (arrV cA n (fun j => va_rf (g j)))
  have e : (fun j : Fin n => va_rf (f j.val)) = fun j : Fin n => va_rf (g j.val) := funext fun j => by rw [h j.val j.isLt]
  rw [hh]
  unfold arrV
  rw [e]
def BkX0 (X : Cx) (q : Nat → Nat) : va_W := [(q 0, .inr (0, [.ref (q 1), .ref (q 2), .ref (q 3), .ref (q 4), .ref (q 5), .int 0, .int 0])), ((q 1), .inl (cy X 0, 24, .inl (fun _ => 0))), ((q 2), .inl (cy X 0, 24, .inl (fun _ => 0))), ((q 3), .inl (cy X 0, 24, .inl (fun _ => 0))), ((q 4), .inl (cy X 0, 24, .inl (fun _ => 0))), ((q 5), .inl (cy X 0, 24, .inl (fun _ => 0)))]
def rmIX0 : Room := { frames := 1, cells := 5, slots := 120, locals := 12 }
set_option maxRecDepth 20000 in
theorem ci_X0 (X : Cx) : CtI yX0_init cX0_init 1 rmIX0 X 0 [.null, .null, .null, .null, .null, .int 0, .int 0] (BkX0 X) 5 120 := by
  refine ci_of (own := RX0) rfl (by decide +kernel) (fun _ => (Nat.le_of_ble_eq_true rfl)) rfl (fun K A h0 C I => ?_)
  refine n_aload C 0 dX0_init_0 rfl ?_
  refine n_objI C aw53 (Nat.le_of_ble_eq_true rfl) (Nat.le_of_ble_eq_true rfl) dX0_init_1 ?_
  refine n_aload C 0 dX0_init_4 rfl ?_
  refine n_bipush (v := 24) C dX0_init_5 (by decide) ?_
  refine n_newi (N := 24) C (by decide) (by decide) (by decide) (Nat.le_of_ble_eq_true rfl) (Nat.le_of_ble_eq_true rfl) dX0_init_7 (fun q1 => ?_)
  refine n_ws (ws2 := (h0, .inr (0, [.null, .null, .null, .null, .null, .int 0, .int 0])) :: [(q1, .inl (cy X 0, 24, .inl (fun _ => 0)))]) rfl ?_
  refine n_putF C I (fs2 := [.ref q1, .null, .null, .null, .null, .int 0, .int 0]) 0 tyX0 iaX0 tyX0_ok nmX0 rfl (by decide) aw54 rfl rfl rfl rfl (Nat.le_of_ble_eq_true rfl) rfl dX0_init_9 ?_
  refine n_aload C 0 dX0_init_12 rfl ?_
  refine n_bipush (v := 24) C dX0_init_13 (by decide) ?_
  refine n_newi (N := 24) C (by decide) (by decide) (by decide) (Nat.le_of_ble_eq_true rfl) (Nat.le_of_ble_eq_true rfl) dX0_init_15 (fun q2 => ?_)
  refine n_ws (ws2 := (h0, .inr (0, [.ref q1, .null, .null, .null, .null, .int 0, .int 0])) :: [(q1, .inl (cy X 0, 24, .inl (fun _ => 0))), (q2, .inl (cy X 0, 24, .inl (fun _ => 0)))]) rfl ?_
  refine n_putF C I (fs2 := [.ref q1, .ref q2, .null, .null, .null, .int 0, .int 0]) 1 tyX0 iaX0 tyX0_ok nmX0 rfl (by decide) aw55 rfl rfl rfl rfl (Nat.le_of_ble_eq_true rfl) rfl dX0_init_17 ?_
  refine n_aload C 0 dX0_init_20 rfl ?_
  refine n_bipush (v := 24) C dX0_init_21 (by decide) ?_
  refine n_newi (N := 24) C (by decide) (by decide) (by decide) (Nat.le_of_ble_eq_true rfl) (Nat.le_of_ble_eq_true rfl) dX0_init_23 (fun q3 => ?_)
  refine n_ws (ws2 := (h0, .inr (0, [.ref q1, .ref q2, .null, .null, .null, .int 0, .int 0])) :: [(q1, .inl (cy X 0, 24, .inl (fun _ => 0))), (q2, .inl (cy X 0, 24, .inl (fun _ => 0))), (q3, .inl (cy X 0, 24, .inl (fun _ => 0)))]) rfl ?_
  refine n_putF C I (fs2 := [.ref q1, .ref q2, .ref q3, .null, .null, .int 0, .int 0]) 2 tyX0 iaX0 tyX0_ok nmX0 rfl (by decide) aw56 rfl rfl rfl rfl (Nat.le_of_ble_eq_true rfl) rfl dX0_init_25 ?_
  refine n_aload C 0 dX0_init_28 rfl ?_
  refine n_bipush (v := 24) C dX0_init_29 (by decide) ?_
  refine n_newi (N := 24) C (by decide) (by decide) (by decide) (Nat.le_of_ble_eq_true rfl) (Nat.le_of_ble_eq_true rfl) dX0_init_31 (fun q4 => ?_)
  refine n_ws (ws2 := (h0, .inr (0, [.ref q1, .ref q2, .ref q3, .null, .null, .int 0, .int 0])) :: [(q1, .inl (cy X 0, 24, .inl (fun _ => 0))), (q2, .inl (cy X 0, 24, .inl (fun _ => 0))), (q3, .inl (cy X 0, 24, .inl (fun _ => 0))), (q4, .inl (cy X 0, 24, .inl (fun _ => 0)))]) rfl ?_
  refine n_putF C I (fs2 := [.ref q1, .ref q2, .ref q3, .ref q4, .null, .int 0, .int 0]) 3 tyX0 iaX0 tyX0_ok nmX0 rfl (by decide) aw57 rfl rfl rfl rfl (Nat.le_of_ble_eq_true rfl) rfl dX0_init_33 ?_
  refine n_aload C 0 dX0_init_36 rfl ?_
  refine n_bipush (v := 24) C dX0_init_37 (by decide) ?_
  refine n_newi (N := 24) C (by decide) (by decide) (by decide) (Nat.le_of_ble_eq_true rfl) (Nat.le_of_ble_eq_true rfl) dX0_init_39 (fun q5 => ?_)
  refine n_ws (ws2 := (h0, .inr (0, [.ref q1, .ref q2, .ref q3, .ref q4, .null, .int 0, .int 0])) :: [(q1, .inl (cy X 0, 24, .inl (fun _ => 0))), (q2, .inl (cy X 0, 24, .inl (fun _ => 0))), (q3, .inl (cy X 0, 24, .inl (fun _ => 0))), (q4, .inl (cy X 0, 24, .inl (fun _ => 0))), (q5, .inl (cy X 0, 24, .inl (fun _ => 0)))]) rfl ?_
  refine n_putF C I (fs2 := [.ref q1, .ref q2, .ref q3, .ref q4, .ref q5, .int 0, .int 0]) 4 tyX0 iaX0 tyX0_ok nmX0 rfl (by decide) aw58 rfl rfl rfl rfl (Nat.le_of_ble_eq_true rfl) rfl dX0_init_41 ?_
  exact n_ret C I dX0_init_44 (fun k => [h0, q1, q2, q3, q4, q5].getD k 0) rfl (fun t hP hD => ⟨hP, hD⟩)
def BkX1 (X : Cx) (q : Nat → Nat) : va_W := [(q 0, .inr (1, [.ref (q 1), .int 0])), ((q 1), .inl (cy X 0, 16, .inl (fun _ => 0)))]
def rmIX1 : Room := { frames := 1, cells := 1, slots := 16, locals := 12 }
set_option maxRecDepth 20000 in
theorem ci_X1 (X : Cx) : CtI yX1_init cX1_init 1 rmIX1 X 1 [.null, .int 0] (BkX1 X) 1 16 := by
  refine ci_of (own := RX1) rfl (by decide +kernel) (fun _ => (Nat.le_of_ble_eq_true rfl)) rfl (fun K A h0 C I => ?_)
  refine n_aload C 0 dX1_init_0 rfl ?_
  refine n_objI C aw61 (Nat.le_of_ble_eq_true rfl) (Nat.le_of_ble_eq_true rfl) dX1_init_1 ?_
  refine n_aload C 0 dX1_init_4 rfl ?_
  refine n_bipush (v := 16) C dX1_init_5 (by decide) ?_
  refine n_newi (N := 16) C (by decide) (by decide) (by decide) (Nat.le_of_ble_eq_true rfl) (Nat.le_of_ble_eq_true rfl) dX1_init_7 (fun q1 => ?_)
  refine n_ws (ws2 := (h0, .inr (1, [.null, .int 0])) :: [(q1, .inl (cy X 0, 16, .inl (fun _ => 0)))]) rfl ?_
  refine n_putF C I (fs2 := [.ref q1, .int 0]) 0 tyX1 iaX1 tyX1_ok nmX1 rfl (by decide) aw62 rfl rfl rfl rfl (Nat.le_of_ble_eq_true rfl) rfl dX1_init_9 ?_
  exact n_ret C I dX1_init_12 (fun k => [h0, q1].getD k 0) rfl (fun t hP hD => ⟨hP, hD⟩)
def BkX2 (X : Cx) (q : Nat → Nat) : va_W := [(q 0, .inr (2, [.ref (q 1), .ref (q 2), .int 0])), ((q 1), .inl (cy X 0, 6, .inl (fun _ => 0))), ((q 2), .inl (cy X 0, 6, .inl (fun _ => 0)))]
def rmIX2 : Room := { frames := 1, cells := 2, slots := 12, locals := 12 }
set_option maxRecDepth 20000 in
theorem ci_X2 (X : Cx) : CtI yX2_init cX2_init 1 rmIX2 X 2 [.null, .null, .int 0] (BkX2 X) 2 12 := by
  refine ci_of (own := RX2) rfl (by decide +kernel) (fun _ => (Nat.le_of_ble_eq_true rfl)) rfl (fun K A h0 C I => ?_)
  refine n_aload C 0 dX2_init_0 rfl ?_
  refine n_objI C aw78 (Nat.le_of_ble_eq_true rfl) (Nat.le_of_ble_eq_true rfl) dX2_init_1 ?_
  refine n_aload C 0 dX2_init_4 rfl ?_
  refine n_bipush (v := 6) C dX2_init_5 (by decide) ?_
  refine n_newi (N := 6) C (by decide) (by decide) (by decide) (Nat.le_of_ble_eq_true rfl) (Nat.le_of_ble_eq_true rfl) dX2_init_7 (fun q1 => ?_)
  refine n_ws (ws2 := (h0, .inr (2, [.null, .null, .int 0])) :: [(q1, .inl (cy X 0, 6, .inl (fun _ => 0)))]) rfl ?_
  refine n_putF C I (fs2 := [.ref q1, .null, .int 0]) 0 tyX2 iaX2 tyX2_ok nmX2 rfl (by decide) aw79 rfl rfl rfl rfl (Nat.le_of_ble_eq_true rfl) rfl dX2_init_9 ?_
  refine n_aload C 0 dX2_init_12 rfl ?_
  refine n_bipush (v := 6) C dX2_init_13 (by decide) ?_
  refine n_newi (N := 6) C (by decide) (by decide) (by decide) (Nat.le_of_ble_eq_true rfl) (Nat.le_of_ble_eq_true rfl) dX2_init_15 (fun q2 => ?_)
  refine n_ws (ws2 := (h0, .inr (2, [.ref q1, .null, .int 0])) :: [(q1, .inl (cy X 0, 6, .inl (fun _ => 0))), (q2, .inl (cy X 0, 6, .inl (fun _ => 0)))]) rfl ?_
  refine n_putF C I (fs2 := [.ref q1, .ref q2, .int 0]) 1 tyX2 iaX2 tyX2_ok nmX2 rfl (by decide) aw80 rfl rfl rfl rfl (Nat.le_of_ble_eq_true rfl) rfl dX2_init_17 ?_
  exact n_ret C I dX2_init_20 (fun k => [h0, q1, q2].getD k 0) rfl (fun t hP hD => ⟨hP, hD⟩)
def BkX3 (X : Cx) (q : Nat → Nat) : va_W := [(q 0, .inr (3, [.ref (q 1), .int 0, .int 0, .int 0, .int 0, .int 0])), ((q 1), .inl (cy X 0, 120, .inl (fun _ => 0)))]
def rmIX3 : Room := { frames := 1, cells := 1, slots := 120, locals := 12 }
set_option maxRecDepth 20000 in
theorem ci_X3 (X : Cx) : CtI yX3_init cX3_init 1 rmIX3 X 3 [.null, .int 0, .int 0, .int 0, .int 0, .int 0] (BkX3 X) 1 120 := by
  refine ci_of (own := RX3) rfl (by decide +kernel) (fun _ => (Nat.le_of_ble_eq_true rfl)) rfl (fun K A h0 C I => ?_)
  refine n_aload C 0 dX3_init_0 rfl ?_
  refine n_objI C aw48 (Nat.le_of_ble_eq_true rfl) (Nat.le_of_ble_eq_true rfl) dX3_init_1 ?_
  refine n_aload C 0 dX3_init_4 rfl ?_
  refine n_bipush (v := 120) C dX3_init_5 (by decide) ?_
  refine n_newi (N := 120) C (by decide) (by decide) (by decide) (Nat.le_of_ble_eq_true rfl) (Nat.le_of_ble_eq_true rfl) dX3_init_7 (fun q1 => ?_)
  refine n_ws (ws2 := (h0, .inr (3, [.null, .int 0, .int 0, .int 0, .int 0, .int 0])) :: [(q1, .inl (cy X 0, 120, .inl (fun _ => 0)))]) rfl ?_
  refine n_putF C I (fs2 := [.ref q1, .int 0, .int 0, .int 0, .int 0, .int 0]) 0 tyX3 iaX3 tyX3_ok nmX3 rfl (by decide) aw50 rfl rfl rfl rfl (Nat.le_of_ble_eq_true rfl) rfl dX3_init_9 ?_
  exact n_ret C I dX3_init_12 (fun k => [h0, q1].getD k 0) rfl (fun t hP hD => ⟨hP, hD⟩)
def BkX4 (X : Cx) (q : Nat → Nat) : va_W := [(q 0, .inr (4, [.ref (q 1), .int (-1), .int 0])), ((q 1), .inl (cy X 0, 40, .inl (fun _ => 0)))]
def rmIX4 : Room := { frames := 1, cells := 1, slots := 40, locals := 12 }
set_option maxRecDepth 20000 in
theorem ci_X4 (X : Cx) : CtI yX4_init cX4_init 1 rmIX4 X 4 [.null, .int 0, .int 0] (BkX4 X) 1 40 := by
  refine ci_of (own := RX4) rfl (by decide +kernel) (fun _ => (Nat.le_of_ble_eq_true rfl)) rfl (fun K A h0 C I => ?_)
  refine n_aload C 0 dX4_init_0 rfl ?_
  refine n_objI C aw96 (Nat.le_of_ble_eq_true rfl) (Nat.le_of_ble_eq_true rfl) dX4_init_1 ?_
  refine n_aload C 0 dX4_init_4 rfl ?_
  refine n_bipush (v := 40) C dX4_init_5 (by decide) ?_
  refine n_newi (N := 40) C (by decide) (by decide) (by decide) (Nat.le_of_ble_eq_true rfl) (Nat.le_of_ble_eq_true rfl) dX4_init_7 (fun q1 => ?_)
  refine n_ws (ws2 := (h0, .inr (4, [.null, .int 0, .int 0])) :: [(q1, .inl (cy X 0, 40, .inl (fun _ => 0)))]) rfl ?_
  refine n_putF C I (fs2 := [.ref q1, .int 0, .int 0]) 0 tyX4 iaX4 tyX4_ok nmX4 rfl (by decide) aw97 rfl rfl rfl rfl (Nat.le_of_ble_eq_true rfl) rfl dX4_init_9 ?_
  refine n_aload C 0 dX4_init_12 rfl ?_
  refine n_iconst (v := (-1)) C dX4_init_13 (by decide) ?_
  refine n_put C (fs2 := [.ref q1, .int (-1), .int 0]) 1 tyX4 iaX4 tyX4_ok nmX4 rfl (by decide) aw98 rfl rfl rfl rfl (Nat.le_of_ble_eq_true rfl) rfl dX4_init_14 ?_
  exact n_ret C I dX4_init_17 (fun k => [h0, q1].getD k 0) rfl (fun t hP hD => ⟨hP, hD⟩)
def BkX5 (X : Cx) (q : Nat → Nat) : va_W := [(q 0, .inr (5, [.ref (q 1), .ref (q 2), .ref (q 3), .int 0, .int 0, .int 0])), ((q 1), .inl (cy X 0, 6, .inl (fun _ => 0))), ((q 2), .inl (cy X 0, 18, .inl (fun _ => 0))), ((q 3), .inl (cy X 0, 18, .inl (fun _ => 0)))]
def rmIX5 : Room := { frames := 1, cells := 3, slots := 42, locals := 12 }
set_option maxRecDepth 20000 in
theorem ci_X5 (X : Cx) : CtI yX5_init cX5_init 1 rmIX5 X 5 [.null, .null, .null, .int 0, .int 0, .int 0] (BkX5 X) 3 42 := by
  refine ci_of (own := RX5) rfl (by decide +kernel) (fun _ => (Nat.le_of_ble_eq_true rfl)) rfl (fun K A h0 C I => ?_)
  refine n_aload C 0 dX5_init_0 rfl ?_
  refine n_objI C aw90 (Nat.le_of_ble_eq_true rfl) (Nat.le_of_ble_eq_true rfl) dX5_init_1 ?_
  refine n_aload C 0 dX5_init_4 rfl ?_
  refine n_bipush (v := 6) C dX5_init_5 (by decide) ?_
  refine n_newi (N := 6) C (by decide) (by decide) (by decide) (Nat.le_of_ble_eq_true rfl) (Nat.le_of_ble_eq_true rfl) dX5_init_7 (fun q1 => ?_)
  refine n_ws (ws2 := (h0, .inr (5, [.null, .null, .null, .int 0, .int 0, .int 0])) :: [(q1, .inl (cy X 0, 6, .inl (fun _ => 0)))]) rfl ?_
  refine n_putF C I (fs2 := [.ref q1, .null, .null, .int 0, .int 0, .int 0]) 0 tyX5 iaX5 tyX5_ok nmX5 rfl (by decide) aw91 rfl rfl rfl rfl (Nat.le_of_ble_eq_true rfl) rfl dX5_init_9 ?_
  refine n_aload C 0 dX5_init_12 rfl ?_
  refine n_bipush (v := 18) C dX5_init_13 (by decide) ?_
  refine n_newi (N := 18) C (by decide) (by decide) (by decide) (Nat.le_of_ble_eq_true rfl) (Nat.le_of_ble_eq_true rfl) dX5_init_15 (fun q2 => ?_)
  refine n_ws (ws2 := (h0, .inr (5, [.ref q1, .null, .null, .int 0, .int 0, .int 0])) :: [(q1, .inl (cy X 0, 6, .inl (fun _ => 0))), (q2, .inl (cy X 0, 18, .inl (fun _ => 0)))]) rfl ?_
  refine n_putF C I (fs2 := [.ref q1, .ref q2, .null, .int 0, .int 0, .int 0]) 1 tyX5 iaX5 tyX5_ok nmX5 rfl (by decide) aw92 rfl rfl rfl rfl (Nat.le_of_ble_eq_true rfl) rfl dX5_init_17 ?_
  refine n_aload C 0 dX5_init_20 rfl ?_
  refine n_bipush (v := 18) C dX5_init_21 (by decide) ?_
  refine n_newi (N := 18) C (by decide) (by decide) (by decide) (Nat.le_of_ble_eq_true rfl) (Nat.le_of_ble_eq_true rfl) dX5_init_23 (fun q3 => ?_)
  refine n_ws (ws2 := (h0, .inr (5, [.ref q1, .ref q2, .null, .int 0, .int 0, .int 0])) :: [(q1, .inl (cy X 0, 6, .inl (fun _ => 0))), (q2, .inl (cy X 0, 18, .inl (fun _ => 0))), (q3, .inl (cy X 0, 18, .inl (fun _ => 0)))]) rfl ?_
  refine n_putF C I (fs2 := [.ref q1, .ref q2, .ref q3, .int 0, .int 0, .int 0]) 2 tyX5 iaX5 tyX5_ok nmX5 rfl (by decide) aw93 rfl rfl rfl rfl (Nat.le_of_ble_eq_true rfl) rfl dX5_init_25 ?_
  exact n_ret C I dX5_init_28 (fun k => [h0, q1, q2, q3].getD k 0) rfl (fun t hP hD => ⟨hP, hD⟩)
def BkX6 (X : Cx) (q : Nat → Nat) : va_W := [(q 0, .inr (6, [.int 0, .int 0, .int 0, .int 0, .int 0, .int 0, .ref (q 1), .ref (q 2), .ref (q 3), .ref (q 4), .ref (q 5), .ref (q 6), .ref (q 7), .ref (q 8), .ref (q 9), .ref (q 10)])), ((q 1), .inl (cy X 0, 6, .inl (fun _ => 0))), ((q 2), .inl (cy X 0, 6, .inl (fun _ => 0))), ((q 3), .inl (cy X 0, 6, .inl (fun _ => 0))), ((q 4), .inl (cy X 0, 6, .inl (fun _ => 0))), ((q 5), .inl (cy X 0, 6, .inl (fun _ => 0))), ((q 6), .inl (cy X 0, 6, .inl (fun _ => 0))), ((q 7), .inl (cy X 0, 6, .inl (fun _ => 0))), ((q 8), .inl (cy X 0, 6, .inl (fun _ => 0))), ((q 9), .inl (cy X 0, 36, .inl (fun _ => 0))), ((q 10), .inl (cy X 0, 36, .inl (fun _ => 0)))]
def rmIX6 : Room := { frames := 1, cells := 10, slots := 120, locals := 12 }
set_option maxRecDepth 20000 in
theorem ci_X6 (X : Cx) : CtI yX6_init cX6_init 1 rmIX6 X 6 [.int 0, .int 0, .int 0, .int 0, .int 0, .int 0, .null, .null, .null, .null, .null, .null, .null, .null, .null, .null] (BkX6 X) 10 120 := by
  refine ci_of (own := RX6) rfl (by decide +kernel) (fun _ => (Nat.le_of_ble_eq_true rfl)) rfl (fun K A h0 C I => ?_)
  refine n_aload C 0 dX6_init_0 rfl ?_
  refine n_objI C aw65 (Nat.le_of_ble_eq_true rfl) (Nat.le_of_ble_eq_true rfl) dX6_init_1 ?_
  refine n_aload C 0 dX6_init_4 rfl ?_
  refine n_bipush (v := 6) C dX6_init_5 (by decide) ?_
  refine n_newi (N := 6) C (by decide) (by decide) (by decide) (Nat.le_of_ble_eq_true rfl) (Nat.le_of_ble_eq_true rfl) dX6_init_7 (fun q1 => ?_)
  refine n_ws (ws2 := (h0, .inr (6, [.int 0, .int 0, .int 0, .int 0, .int 0, .int 0, .null, .null, .null, .null, .null, .null, .null, .null, .null, .null])) :: [(q1, .inl (cy X 0, 6, .inl (fun _ => 0)))]) rfl ?_
  refine n_putF C I (fs2 := [.int 0, .int 0, .int 0, .int 0, .int 0, .int 0, .ref q1, .null, .null, .null, .null, .null, .null, .null, .null, .null]) 6 tyX6 iaX6 tyX6_ok nmX6 rfl (by decide) aw66 rfl rfl rfl rfl (Nat.le_of_ble_eq_true rfl) rfl dX6_init_9 ?_
  refine n_aload C 0 dX6_init_12 rfl ?_
  refine n_bipush (v := 6) C dX6_init_13 (by decide) ?_
  refine n_newi (N := 6) C (by decide) (by decide) (by decide) (Nat.le_of_ble_eq_true rfl) (Nat.le_of_ble_eq_true rfl) dX6_init_15 (fun q2 => ?_)
  refine n_ws (ws2 := (h0, .inr (6, [.int 0, .int 0, .int 0, .int 0, .int 0, .int 0, .ref q1, .null, .null, .null, .null, .null, .null, .null, .null, .null])) :: [(q1, .inl (cy X 0, 6, .inl (fun _ => 0))), (q2, .inl (cy X 0, 6, .inl (fun _ => 0)))]) rfl ?_
  refine n_putF C I (fs2 := [.int 0, .int 0, .int 0, .int 0, .int 0, .int 0, .ref q1, .ref q2, .null, .null, .null, .null, .null, .null, .null, .null]) 7 tyX6 iaX6 tyX6_ok nmX6 rfl (by decide) aw67 rfl rfl rfl rfl (Nat.le_of_ble_eq_true rfl) rfl dX6_init_17 ?_
  refine n_aload C 0 dX6_init_20 rfl ?_
  refine n_bipush (v := 6) C dX6_init_21 (by decide) ?_
  refine n_newi (N := 6) C (by decide) (by decide) (by decide) (Nat.le_of_ble_eq_true rfl) (Nat.le_of_ble_eq_true rfl) dX6_init_23 (fun q3 => ?_)
  refine n_ws (ws2 := (h0, .inr (6, [.int 0, .int 0, .int 0, .int 0, .int 0, .int 0, .ref q1, .ref q2, .null, .null, .null, .null, .null, .null, .null, .null])) :: [(q1, .inl (cy X 0, 6, .inl (fun _ => 0))), (q2, .inl (cy X 0, 6, .inl (fun _ => 0))), (q3, .inl (cy X 0, 6, .inl (fun _ => 0)))]) rfl ?_
  refine n_putF C I (fs2 := [.int 0, .int 0, .int 0, .int 0, .int 0, .int 0, .ref q1, .ref q2, .ref q3, .null, .null, .null, .null, .null, .null, .null]) 8 tyX6 iaX6 tyX6_ok nmX6 rfl (by decide) aw68 rfl rfl rfl rfl (Nat.le_of_ble_eq_true rfl) rfl dX6_init_25 ?_
  refine n_aload C 0 dX6_init_28 rfl ?_
  refine n_bipush (v := 6) C dX6_init_29 (by decide) ?_
  refine n_newi (N := 6) C (by decide) (by decide) (by decide) (Nat.le_of_ble_eq_true rfl) (Nat.le_of_ble_eq_true rfl) dX6_init_31 (fun q4 => ?_)
  refine n_ws (ws2 := (h0, .inr (6, [.int 0, .int 0, .int 0, .int 0, .int 0, .int 0, .ref q1, .ref q2, .ref q3, .null, .null, .null, .null, .null, .null, .null])) :: [(q1, .inl (cy X 0, 6, .inl (fun _ => 0))), (q2, .inl (cy X 0, 6, .inl (fun _ => 0))), (q3, .inl (cy X 0, 6, .inl (fun _ => 0))), (q4, .inl (cy X 0, 6, .inl (fun _ => 0)))]) rfl ?_
  refine n_putF C I (fs2 := [.int 0, .int 0, .int 0, .int 0, .int 0, .int 0, .ref q1, .ref q2, .ref q3, .ref q4, .null, .null, .null, .null, .null, .null]) 9 tyX6 iaX6 tyX6_ok nmX6 rfl (by decide) aw69 rfl rfl rfl rfl (Nat.le_of_ble_eq_true rfl) rfl dX6_init_33 ?_
  refine n_aload C 0 dX6_init_36 rfl ?_
  refine n_bipush (v := 6) C dX6_init_37 (by decide) ?_
  refine n_newi (N := 6) C (by decide) (by decide) (by decide) (Nat.le_of_ble_eq_true rfl) (Nat.le_of_ble_eq_true rfl) dX6_init_39 (fun q5 => ?_)
  refine n_ws (ws2 := (h0, .inr (6, [.int 0, .int 0, .int 0, .int 0, .int 0, .int 0, .ref q1, .ref q2, .ref q3, .ref q4, .null, .null, .null, .null, .null, .null])) :: [(q1, .inl (cy X 0, 6, .inl (fun _ => 0))), (q2, .inl (cy X 0, 6, .inl (fun _ => 0))), (q3, .inl (cy X 0, 6, .inl (fun _ => 0))), (q4, .inl (cy X 0, 6, .inl (fun _ => 0))), (q5, .inl (cy X 0, 6, .inl (fun _ => 0)))]) rfl ?_
  refine n_putF C I (fs2 := [.int 0, .int 0, .int 0, .int 0, .int 0, .int 0, .ref q1, .ref q2, .ref q3, .ref q4, .ref q5, .null, .null, .null, .null, .null]) 10 tyX6 iaX6 tyX6_ok nmX6 rfl (by decide) aw70 rfl rfl rfl rfl (Nat.le_of_ble_eq_true rfl) rfl dX6_init_41 ?_
  refine n_aload C 0 dX6_init_44 rfl ?_
  refine n_bipush (v := 6) C dX6_init_45 (by decide) ?_
  refine n_newi (N := 6) C (by decide) (by decide) (by decide) (Nat.le_of_ble_eq_true rfl) (Nat.le_of_ble_eq_true rfl) dX6_init_47 (fun q6 => ?_)
  refine n_ws (ws2 := (h0, .inr (6, [.int 0, .int 0, .int 0, .int 0, .int 0, .int 0, .ref q1, .ref q2, .ref q3, .ref q4, .ref q5, .null, .null, .null, .null, .null])) :: [(q1, .inl (cy X 0, 6, .inl (fun _ => 0))), (q2, .inl (cy X 0, 6, .inl (fun _ => 0))), (q3, .inl (cy X 0, 6, .inl (fun _ => 0))), (q4, .inl (cy X 0, 6, .inl (fun _ => 0))), (q5, .inl (cy X 0, 6, .inl (fun _ => 0))), (q6, .inl (cy X 0, 6, .inl (fun _ => 0)))]) rfl ?_
  refine n_putF C I (fs2 := [.int 0, .int 0, .int 0, .int 0, .int 0, .int 0, .ref q1, .ref q2, .ref q3, .ref q4, .ref q5, .ref q6, .null, .null, .null, .null]) 11 tyX6 iaX6 tyX6_ok nmX6 rfl (by decide) aw71 rfl rfl rfl rfl (Nat.le_of_ble_eq_true rfl) rfl dX6_init_49 ?_
  refine n_aload C 0 dX6_init_52 rfl ?_
  refine n_bipush (v := 6) C dX6_init_53 (by decide) ?_
  refine n_newi (N := 6) C (by decide) (by decide) (by decide) (Nat.le_of_ble_eq_true rfl) (Nat.le_of_ble_eq_true rfl) dX6_init_55 (fun q7 => ?_)
  refine n_ws (ws2 := (h0, .inr (6, [.int 0, .int 0, .int 0, .int 0, .int 0, .int 0, .ref q1, .ref q2, .ref q3, .ref q4, .ref q5, .ref q6, .null, .null, .null, .null])) :: [(q1, .inl (cy X 0, 6, .inl (fun _ => 0))), (q2, .inl (cy X 0, 6, .inl (fun _ => 0))), (q3, .inl (cy X 0, 6, .inl (fun _ => 0))), (q4, .inl (cy X 0, 6, .inl (fun _ => 0))), (q5, .inl (cy X 0, 6, .inl (fun _ => 0))), (q6, .inl (cy X 0, 6, .inl (fun _ => 0))), (q7, .inl (cy X 0, 6, .inl (fun _ => 0)))]) rfl ?_
  refine n_putF C I (fs2 := [.int 0, .int 0, .int 0, .int 0, .int 0, .int 0, .ref q1, .ref q2, .ref q3, .ref q4, .ref q5, .ref q6, .ref q7, .null, .null, .null]) 12 tyX6 iaX6 tyX6_ok nmX6 rfl (by decide) aw72 rfl rfl rfl rfl (Nat.le_of_ble_eq_true rfl) rfl dX6_init_57 ?_
  refine n_aload C 0 dX6_init_60 rfl ?_
  refine n_bipush (v := 6) C dX6_init_61 (by decide) ?_
  refine n_newi (N := 6) C (by decide) (by decide) (by decide) (Nat.le_of_ble_eq_true rfl) (Nat.le_of_ble_eq_true rfl) dX6_init_63 (fun q8 => ?_)
  refine n_ws (ws2 := (h0, .inr (6, [.int 0, .int 0, .int 0, .int 0, .int 0, .int 0, .ref q1, .ref q2, .ref q3, .ref q4, .ref q5, .ref q6, .ref q7, .null, .null, .null])) :: [(q1, .inl (cy X 0, 6, .inl (fun _ => 0))), (q2, .inl (cy X 0, 6, .inl (fun _ => 0))), (q3, .inl (cy X 0, 6, .inl (fun _ => 0))), (q4, .inl (cy X 0, 6, .inl (fun _ => 0))), (q5, .inl (cy X 0, 6, .inl (fun _ => 0))), (q6, .inl (cy X 0, 6, .inl (fun _ => 0))), (q7, .inl (cy X 0, 6, .inl (fun _ => 0))), (q8, .inl (cy X 0, 6, .inl (fun _ => 0)))]) rfl ?_
  refine n_putF C I (fs2 := [.int 0, .int 0, .int 0, .int 0, .int 0, .int 0, .ref q1, .ref q2, .ref q3, .ref q4, .ref q5, .ref q6, .ref q7, .ref q8, .null, .null]) 13 tyX6 iaX6 tyX6_ok nmX6 rfl (by decide) aw73 rfl rfl rfl rfl (Nat.le_of_ble_eq_true rfl) rfl dX6_init_65 ?_
  refine n_aload C 0 dX6_init_68 rfl ?_
  refine n_bipush (v := 36) C dX6_init_69 (by decide) ?_
  refine n_newi (N := 36) C (by decide) (by decide) (by decide) (Nat.le_of_ble_eq_true rfl) (Nat.le_of_ble_eq_true rfl) dX6_init_71 (fun q9 => ?_)
  refine n_ws (ws2 := (h0, .inr (6, [.int 0, .int 0, .int 0, .int 0, .int 0, .int 0, .ref q1, .ref q2, .ref q3, .ref q4, .ref q5, .ref q6, .ref q7, .ref q8, .null, .null])) :: [(q1, .inl (cy X 0, 6, .inl (fun _ => 0))), (q2, .inl (cy X 0, 6, .inl (fun _ => 0))), (q3, .inl (cy X 0, 6, .inl (fun _ => 0))), (q4, .inl (cy X 0, 6, .inl (fun _ => 0))), (q5, .inl (cy X 0, 6, .inl (fun _ => 0))), (q6, .inl (cy X 0, 6, .inl (fun _ => 0))), (q7, .inl (cy X 0, 6, .inl (fun _ => 0))), (q8, .inl (cy X 0, 6, .inl (fun _ => 0))), (q9, .inl (cy X 0, 36, .inl (fun _ => 0)))]) rfl ?_
  refine n_putF C I (fs2 := [.int 0, .int 0, .int 0, .int 0, .int 0, .int 0, .ref q1, .ref q2, .ref q3, .ref q4, .ref q5, .ref q6, .ref q7, .ref q8, .ref q9, .null]) 14 tyX6 iaX6 tyX6_ok nmX6 rfl (by decide) aw74 rfl rfl rfl rfl (Nat.le_of_ble_eq_true rfl) rfl dX6_init_73 ?_
  refine n_aload C 0 dX6_init_76 rfl ?_
  refine n_bipush (v := 36) C dX6_init_77 (by decide) ?_
  refine n_newi (N := 36) C (by decide) (by decide) (by decide) (Nat.le_of_ble_eq_true rfl) (Nat.le_of_ble_eq_true rfl) dX6_init_79 (fun q10 => ?_)
  refine n_ws (ws2 := (h0, .inr (6, [.int 0, .int 0, .int 0, .int 0, .int 0, .int 0, .ref q1, .ref q2, .ref q3, .ref q4, .ref q5, .ref q6, .ref q7, .ref q8, .ref q9, .null])) :: [(q1, .inl (cy X 0, 6, .inl (fun _ => 0))), (q2, .inl (cy X 0, 6, .inl (fun _ => 0))), (q3, .inl (cy X 0, 6, .inl (fun _ => 0))), (q4, .inl (cy X 0, 6, .inl (fun _ => 0))), (q5, .inl (cy X 0, 6, .inl (fun _ => 0))), (q6, .inl (cy X 0, 6, .inl (fun _ => 0))), (q7, .inl (cy X 0, 6, .inl (fun _ => 0))), (q8, .inl (cy X 0, 6, .inl (fun _ => 0))), (q9, .inl (cy X 0, 36, .inl (fun _ => 0))), (q10, .inl (cy X 0, 36, .inl (fun _ => 0)))]) rfl ?_
  refine n_putF C I (fs2 := [.int 0, .int 0, .int 0, .int 0, .int 0, .int 0, .ref q1, .ref q2, .ref q3, .ref q4, .ref q5, .ref q6, .ref q7, .ref q8, .ref q9, .ref q10]) 15 tyX6 iaX6 tyX6_ok nmX6 rfl (by decide) aw75 rfl rfl rfl rfl (Nat.le_of_ble_eq_true rfl) rfl dX6_init_81 ?_
  exact n_ret C I dX6_init_84 (fun k => [h0, q1, q2, q3, q4, q5, q6, q7, q8, q9, q10].getD k 0) rfl (fun t hP hD => ⟨hP, hD⟩)
def BkX7 (X : Cx) (q : Nat → Nat) : va_W := [(q 0, .inr (7, [.ref (q 1), .ref (q 2), .ref (q 3), .ref (q 4), .int 0])), ((q 1), .inl (cy X 0, 7, .inl (fun _ => 0))), ((q 2), .inl (cy X 0, 7, .inl (fun _ => 0))), ((q 3), .inl (cy X 0, 7, .inl (fun _ => 0))), ((q 4), .inl (cy X 0, 6, .inl (fun _ => 0)))]
def rmIX7 : Room := { frames := 1, cells := 4, slots := 27, locals := 12 }
set_option maxRecDepth 20000 in
theorem ci_X7 (X : Cx) : CtI yX7_init cX7_init 1 rmIX7 X 7 [.null, .null, .null, .null, .int 0] (BkX7 X) 4 27 := by
  refine ci_of (own := RX7) rfl (by decide +kernel) (fun _ => (Nat.le_of_ble_eq_true rfl)) rfl (fun K A h0 C I => ?_)
  refine n_aload C 0 dX7_init_0 rfl ?_
  refine n_objI C aw83 (Nat.le_of_ble_eq_true rfl) (Nat.le_of_ble_eq_true rfl) dX7_init_1 ?_
  refine n_aload C 0 dX7_init_4 rfl ?_
  refine n_bipush (v := 7) C dX7_init_5 (by decide) ?_
  refine n_newi (N := 7) C (by decide) (by decide) (by decide) (Nat.le_of_ble_eq_true rfl) (Nat.le_of_ble_eq_true rfl) dX7_init_7 (fun q1 => ?_)
  refine n_ws (ws2 := (h0, .inr (7, [.null, .null, .null, .null, .int 0])) :: [(q1, .inl (cy X 0, 7, .inl (fun _ => 0)))]) rfl ?_
  refine n_putF C I (fs2 := [.ref q1, .null, .null, .null, .int 0]) 0 tyX7 iaX7 tyX7_ok nmX7 rfl (by decide) aw84 rfl rfl rfl rfl (Nat.le_of_ble_eq_true rfl) rfl dX7_init_9 ?_
  refine n_aload C 0 dX7_init_12 rfl ?_
  refine n_bipush (v := 7) C dX7_init_13 (by decide) ?_
  refine n_newi (N := 7) C (by decide) (by decide) (by decide) (Nat.le_of_ble_eq_true rfl) (Nat.le_of_ble_eq_true rfl) dX7_init_15 (fun q2 => ?_)
  refine n_ws (ws2 := (h0, .inr (7, [.ref q1, .null, .null, .null, .int 0])) :: [(q1, .inl (cy X 0, 7, .inl (fun _ => 0))), (q2, .inl (cy X 0, 7, .inl (fun _ => 0)))]) rfl ?_
  refine n_putF C I (fs2 := [.ref q1, .ref q2, .null, .null, .int 0]) 1 tyX7 iaX7 tyX7_ok nmX7 rfl (by decide) aw85 rfl rfl rfl rfl (Nat.le_of_ble_eq_true rfl) rfl dX7_init_17 ?_
  refine n_aload C 0 dX7_init_20 rfl ?_
  refine n_bipush (v := 7) C dX7_init_21 (by decide) ?_
  refine n_newi (N := 7) C (by decide) (by decide) (by decide) (Nat.le_of_ble_eq_true rfl) (Nat.le_of_ble_eq_true rfl) dX7_init_23 (fun q3 => ?_)
  refine n_ws (ws2 := (h0, .inr (7, [.ref q1, .ref q2, .null, .null, .int 0])) :: [(q1, .inl (cy X 0, 7, .inl (fun _ => 0))), (q2, .inl (cy X 0, 7, .inl (fun _ => 0))), (q3, .inl (cy X 0, 7, .inl (fun _ => 0)))]) rfl ?_
  refine n_putF C I (fs2 := [.ref q1, .ref q2, .ref q3, .null, .int 0]) 2 tyX7 iaX7 tyX7_ok nmX7 rfl (by decide) aw86 rfl rfl rfl rfl (Nat.le_of_ble_eq_true rfl) rfl dX7_init_25 ?_
  refine n_aload C 0 dX7_init_28 rfl ?_
  refine n_bipush (v := 6) C dX7_init_29 (by decide) ?_
  refine n_newi (N := 6) C (by decide) (by decide) (by decide) (Nat.le_of_ble_eq_true rfl) (Nat.le_of_ble_eq_true rfl) dX7_init_31 (fun q4 => ?_)
  refine n_ws (ws2 := (h0, .inr (7, [.ref q1, .ref q2, .ref q3, .null, .int 0])) :: [(q1, .inl (cy X 0, 7, .inl (fun _ => 0))), (q2, .inl (cy X 0, 7, .inl (fun _ => 0))), (q3, .inl (cy X 0, 7, .inl (fun _ => 0))), (q4, .inl (cy X 0, 6, .inl (fun _ => 0)))]) rfl ?_
  refine n_putF C I (fs2 := [.ref q1, .ref q2, .ref q3, .ref q4, .int 0]) 3 tyX7 iaX7 tyX7_ok nmX7 rfl (by decide) aw87 rfl rfl rfl rfl (Nat.le_of_ble_eq_true rfl) rfl dX7_init_33 ?_
  exact n_ret C I dX7_init_36 (fun k => [h0, q1, q2, q3, q4].getD k 0) rfl (fun t hP hD => ⟨hP, hD⟩)
def BkX9 (X : Cx) (q : Nat → Nat) : va_W := [(q 0, .inr (9, [.ref (q 1), .int 0, .ref (q 2), .ref (q 3), .ref (q 4), .ref (q 5), .ref (q 6), .int 0, .int 0, .int 0, .ref (q 7), .int 0, .int 0, .int 0, .int 0, .int 0, .int 0, .int 0, .int 0, .int 0, .int 0])), ((q 1), .inl (cy X 0, 3528, .inl (fun _ => 0))), ((q 2), .inl (cy X 1, 2, .inl (fun _ => 0))), ((q 3), .inl (cy X 0, 8, .inl (fun _ => 0))), ((q 4), .inl (cy X 0, 8, .inl (fun _ => -1))), ((q 5), .inl (cy X 0, 320, .inl (fun _ => 0))), ((q 6), .inl (cy X 0, 120, .inl (fun _ => 0))), ((q 7), .inl (cy X 0, 16, .inl (fun _ => 0)))]
def rmIX9 : Room := { frames := 1, cells := 7, slots := 4002, locals := 12 }
set_option maxRecDepth 20000 in
theorem ci_X9 (X : Cx) : CtI yX9_init cX9_init 1 rmIX9 X 9 [.null, .int 0, .null, .null, .null, .null, .null, .int 0, .int 0, .int 0, .null, .int 0, .int 0, .int 0, .int 0, .int 0, .int 0, .int 0, .int 0, .int 0, .int 0] (BkX9 X) 7 4002 := by
  refine ci_of (own := RX9) rfl (by decide +kernel) (fun _ => (Nat.le_of_ble_eq_true rfl)) rfl (fun K A h0 C I => ?_)
  refine n_aload C 0 dX9_init_0 rfl ?_
  refine n_objI C aw102 (Nat.le_of_ble_eq_true rfl) (Nat.le_of_ble_eq_true rfl) dX9_init_1 ?_
  refine n_aload C 0 dX9_init_4 rfl ?_
  refine n_sipush (v := 3528) C dX9_init_5 (by decide) ?_
  refine n_newi (N := 3528) C (by decide) (by decide) (by decide) (Nat.le_of_ble_eq_true rfl) (Nat.le_of_ble_eq_true rfl) dX9_init_8 (fun q1 => ?_)
  refine n_ws (ws2 := (h0, .inr (9, [.null, .int 0, .null, .null, .null, .null, .null, .int 0, .int 0, .int 0, .null, .int 0, .int 0, .int 0, .int 0, .int 0, .int 0, .int 0, .int 0, .int 0, .int 0])) :: [(q1, .inl (cy X 0, 3528, .inl (fun _ => 0)))]) rfl ?_
  refine n_putF C I (fs2 := [.ref q1, .int 0, .null, .null, .null, .null, .null, .int 0, .int 0, .int 0, .null, .int 0, .int 0, .int 0, .int 0, .int 0, .int 0, .int 0, .int 0, .int 0, .int 0]) 0 tyX9 iaX9 tyX9_ok nmX9 rfl (by decide) aw103 rfl rfl rfl rfl (Nat.le_of_ble_eq_true rfl) rfl dX9_init_10 ?_
  refine n_aload C 0 dX9_init_13 rfl ?_
  refine n_iconst (v := 2) C dX9_init_14 (by decide) ?_
  refine n_newz (N := 2) C (by decide) (by decide) (by decide) (Nat.le_of_ble_eq_true rfl) (Nat.le_of_ble_eq_true rfl) dX9_init_15 (fun q2 => ?_)
  refine n_ws (ws2 := (h0, .inr (9, [.ref q1, .int 0, .null, .null, .null, .null, .null, .int 0, .int 0, .int 0, .null, .int 0, .int 0, .int 0, .int 0, .int 0, .int 0, .int 0, .int 0, .int 0, .int 0])) :: [(q1, .inl (cy X 0, 3528, .inl (fun _ => 0))), (q2, .inl (cy X 1, 2, .inl (fun _ => 0)))]) rfl ?_
  refine n_putF C I (fs2 := [.ref q1, .int 0, .ref q2, .null, .null, .null, .null, .int 0, .int 0, .int 0, .null, .int 0, .int 0, .int 0, .int 0, .int 0, .int 0, .int 0, .int 0, .int 0, .int 0]) 2 tyX9 iaX9 tyX9_ok nmX9 rfl (by decide) aw105 rfl rfl rfl rfl (Nat.le_of_ble_eq_true rfl) rfl dX9_init_17 ?_
  refine n_aload C 0 dX9_init_20 rfl ?_
  refine n_bipush (v := 8) C dX9_init_21 (by decide) ?_
  refine n_newi (N := 8) C (by decide) (by decide) (by decide) (Nat.le_of_ble_eq_true rfl) (Nat.le_of_ble_eq_true rfl) dX9_init_23 (fun q3 => ?_)
  refine n_ws (ws2 := (h0, .inr (9, [.ref q1, .int 0, .ref q2, .null, .null, .null, .null, .int 0, .int 0, .int 0, .null, .int 0, .int 0, .int 0, .int 0, .int 0, .int 0, .int 0, .int 0, .int 0, .int 0])) :: [(q1, .inl (cy X 0, 3528, .inl (fun _ => 0))), (q2, .inl (cy X 1, 2, .inl (fun _ => 0))), (q3, .inl (cy X 0, 8, .inl (fun _ => 0)))]) rfl ?_
  refine n_putF C I (fs2 := [.ref q1, .int 0, .ref q2, .ref q3, .null, .null, .null, .int 0, .int 0, .int 0, .null, .int 0, .int 0, .int 0, .int 0, .int 0, .int 0, .int 0, .int 0, .int 0, .int 0]) 3 tyX9 iaX9 tyX9_ok nmX9 rfl (by decide) aw106 rfl rfl rfl rfl (Nat.le_of_ble_eq_true rfl) rfl dX9_init_25 ?_
  refine n_aload C 0 dX9_init_28 rfl ?_
  refine n_bipush (v := 8) C dX9_init_29 (by decide) ?_
  refine n_newi (N := 8) C (by decide) (by decide) (by decide) (Nat.le_of_ble_eq_true rfl) (Nat.le_of_ble_eq_true rfl) dX9_init_31 (fun q4 => ?_)
  refine n_ws (ws2 := (h0, .inr (9, [.ref q1, .int 0, .ref q2, .ref q3, .null, .null, .null, .int 0, .int 0, .int 0, .null, .int 0, .int 0, .int 0, .int 0, .int 0, .int 0, .int 0, .int 0, .int 0, .int 0])) :: [(q1, .inl (cy X 0, 3528, .inl (fun _ => 0))), (q2, .inl (cy X 1, 2, .inl (fun _ => 0))), (q3, .inl (cy X 0, 8, .inl (fun _ => 0))), (q4, .inl (cy X 0, 8, .inl (fun _ => 0)))]) rfl ?_
  refine n_dup C dX9_init_33 rfl ?_
  refine n_iconst (v := 0) C dX9_init_34 (by decide) ?_
  refine n_iconst (v := (-1)) C dX9_init_35 (by decide) ?_
  refine n_iast (j := 0) C 4 rfl (in_lit (by decide)) (by decide) dX9_init_36 ?_
  refine n_ws (ws2 := (h0, .inr (9, [.ref q1, .int 0, .ref q2, .ref q3, .null, .null, .null, .int 0, .int 0, .int 0, .null, .int 0, .int 0, .int 0, .int 0, .int 0, .int 0, .int 0, .int 0, .int 0, .int 0])) :: [(q1, .inl (cy X 0, 3528, .inl (fun _ => 0))), (q2, .inl (cy X 1, 2, .inl (fun _ => 0))), (q3, .inl (cy X 0, 8, .inl (fun _ => 0))), (q4, .inl (cy X 0, 8, .inl (upd (fun _ => 0) 0 (-1))))]) rfl ?_
  refine n_dup C dX9_init_37 rfl ?_
  refine n_iconst (v := 1) C dX9_init_38 (by decide) ?_
  refine n_iconst (v := (-1)) C dX9_init_39 (by decide) ?_
  refine n_iast (j := 1) C 4 rfl (in_lit (by decide)) (by decide) dX9_init_40 ?_
  refine n_ws (ws2 := (h0, .inr (9, [.ref q1, .int 0, .ref q2, .ref q3, .null, .null, .null, .int 0, .int 0, .int 0, .null, .int 0, .int 0, .int 0, .int 0, .int 0, .int 0, .int 0, .int 0, .int 0, .int 0])) :: [(q1, .inl (cy X 0, 3528, .inl (fun _ => 0))), (q2, .inl (cy X 1, 2, .inl (fun _ => 0))), (q3, .inl (cy X 0, 8, .inl (fun _ => 0))), (q4, .inl (cy X 0, 8, .inl (upd (upd (fun _ => 0) 0 (-1)) 1 (-1))))]) rfl ?_
  refine n_dup C dX9_init_41 rfl ?_
  refine n_iconst (v := 2) C dX9_init_42 (by decide) ?_
  refine n_iconst (v := (-1)) C dX9_init_43 (by decide) ?_
  refine n_iast (j := 2) C 4 rfl (in_lit (by decide)) (by decide) dX9_init_44 ?_
  refine n_ws (ws2 := (h0, .inr (9, [.ref q1, .int 0, .ref q2, .ref q3, .null, .null, .null, .int 0, .int 0, .int 0, .null, .int 0, .int 0, .int 0, .int 0, .int 0, .int 0, .int 0, .int 0, .int 0, .int 0])) :: [(q1, .inl (cy X 0, 3528, .inl (fun _ => 0))), (q2, .inl (cy X 1, 2, .inl (fun _ => 0))), (q3, .inl (cy X 0, 8, .inl (fun _ => 0))), (q4, .inl (cy X 0, 8, .inl (upd (upd (upd (fun _ => 0) 0 (-1)) 1 (-1)) 2 (-1))))]) rfl ?_
  refine n_dup C dX9_init_45 rfl ?_
  refine n_iconst (v := 3) C dX9_init_46 (by decide) ?_
  refine n_iconst (v := (-1)) C dX9_init_47 (by decide) ?_
  refine n_iast (j := 3) C 4 rfl (in_lit (by decide)) (by decide) dX9_init_48 ?_
  refine n_ws (ws2 := (h0, .inr (9, [.ref q1, .int 0, .ref q2, .ref q3, .null, .null, .null, .int 0, .int 0, .int 0, .null, .int 0, .int 0, .int 0, .int 0, .int 0, .int 0, .int 0, .int 0, .int 0, .int 0])) :: [(q1, .inl (cy X 0, 3528, .inl (fun _ => 0))), (q2, .inl (cy X 1, 2, .inl (fun _ => 0))), (q3, .inl (cy X 0, 8, .inl (fun _ => 0))), (q4, .inl (cy X 0, 8, .inl (upd (upd (upd (upd (fun _ => 0) 0 (-1)) 1 (-1)) 2 (-1)) 3 (-1))))]) rfl ?_
  refine n_dup C dX9_init_49 rfl ?_
  refine n_iconst (v := 4) C dX9_init_50 (by decide) ?_
  refine n_iconst (v := (-1)) C dX9_init_51 (by decide) ?_
  refine n_iast (j := 4) C 4 rfl (in_lit (by decide)) (by decide) dX9_init_52 ?_
  refine n_ws (ws2 := (h0, .inr (9, [.ref q1, .int 0, .ref q2, .ref q3, .null, .null, .null, .int 0, .int 0, .int 0, .null, .int 0, .int 0, .int 0, .int 0, .int 0, .int 0, .int 0, .int 0, .int 0, .int 0])) :: [(q1, .inl (cy X 0, 3528, .inl (fun _ => 0))), (q2, .inl (cy X 1, 2, .inl (fun _ => 0))), (q3, .inl (cy X 0, 8, .inl (fun _ => 0))), (q4, .inl (cy X 0, 8, .inl (upd (upd (upd (upd (upd (fun _ => 0) 0 (-1)) 1 (-1)) 2 (-1)) 3 (-1)) 4 (-1))))]) rfl ?_
  refine n_dup C dX9_init_53 rfl ?_
  refine n_iconst (v := 5) C dX9_init_54 (by decide) ?_
  refine n_iconst (v := (-1)) C dX9_init_55 (by decide) ?_
  refine n_iast (j := 5) C 4 rfl (in_lit (by decide)) (by decide) dX9_init_56 ?_
  refine n_ws (ws2 := (h0, .inr (9, [.ref q1, .int 0, .ref q2, .ref q3, .null, .null, .null, .int 0, .int 0, .int 0, .null, .int 0, .int 0, .int 0, .int 0, .int 0, .int 0, .int 0, .int 0, .int 0, .int 0])) :: [(q1, .inl (cy X 0, 3528, .inl (fun _ => 0))), (q2, .inl (cy X 1, 2, .inl (fun _ => 0))), (q3, .inl (cy X 0, 8, .inl (fun _ => 0))), (q4, .inl (cy X 0, 8, .inl (upd (upd (upd (upd (upd (upd (fun _ => 0) 0 (-1)) 1 (-1)) 2 (-1)) 3 (-1)) 4 (-1)) 5 (-1))))]) rfl ?_
  refine n_dup C dX9_init_57 rfl ?_
  refine n_bipush (v := 6) C dX9_init_58 (by decide) ?_
  refine n_iconst (v := (-1)) C dX9_init_60 (by decide) ?_
  refine n_iast (j := 6) C 4 rfl (in_lit (by decide)) (by decide) dX9_init_61 ?_
  refine n_ws (ws2 := (h0, .inr (9, [.ref q1, .int 0, .ref q2, .ref q3, .null, .null, .null, .int 0, .int 0, .int 0, .null, .int 0, .int 0, .int 0, .int 0, .int 0, .int 0, .int 0, .int 0, .int 0, .int 0])) :: [(q1, .inl (cy X 0, 3528, .inl (fun _ => 0))), (q2, .inl (cy X 1, 2, .inl (fun _ => 0))), (q3, .inl (cy X 0, 8, .inl (fun _ => 0))), (q4, .inl (cy X 0, 8, .inl (upd (upd (upd (upd (upd (upd (upd (fun _ => 0) 0 (-1)) 1 (-1)) 2 (-1)) 3 (-1)) 4 (-1)) 5 (-1)) 6 (-1))))]) rfl ?_
  refine n_dup C dX9_init_62 rfl ?_
  refine n_bipush (v := 7) C dX9_init_63 (by decide) ?_
  refine n_iconst (v := (-1)) C dX9_init_65 (by decide) ?_
  refine n_iast (j := 7) C 4 rfl (in_lit (by decide)) (by decide) dX9_init_66 ?_
  refine n_ws (ws2 := (h0, .inr (9, [.ref q1, .int 0, .ref q2, .ref q3, .null, .null, .null, .int 0, .int 0, .int 0, .null, .int 0, .int 0, .int 0, .int 0, .int 0, .int 0, .int 0, .int 0, .int 0, .int 0])) :: [(q1, .inl (cy X 0, 3528, .inl (fun _ => 0))), (q2, .inl (cy X 1, 2, .inl (fun _ => 0))), (q3, .inl (cy X 0, 8, .inl (fun _ => 0))), (q4, .inl (cy X 0, 8, .inl (upd (upd (upd (upd (upd (upd (upd (upd (fun _ => 0) 0 (-1)) 1 (-1)) 2 (-1)) 3 (-1)) 4 (-1)) 5 (-1)) 6 (-1)) 7 (-1))))]) rfl ?_
  refine n_cell (e2 := .inl (cy X 0, 8, .inl (fun _ => -1))) 4 rfl (fun H => at_ext (fun j hj => by rcases (show j = 0 ∨ j = 1 ∨ j = 2 ∨ j = 3 ∨ j = 4 ∨ j = 5 ∨ j = 6 ∨ j = 7 by omega) with rfl | rfl | rfl | rfl | rfl | rfl | rfl | rfl <;> rfl)) ?_
  refine n_ws (ws2 := (h0, .inr (9, [.ref q1, .int 0, .ref q2, .ref q3, .null, .null, .null, .int 0, .int 0, .int 0, .null, .int 0, .int 0, .int 0, .int 0, .int 0, .int 0, .int 0, .int 0, .int 0, .int 0])) :: [(q1, .inl (cy X 0, 3528, .inl (fun _ => 0))), (q2, .inl (cy X 1, 2, .inl (fun _ => 0))), (q3, .inl (cy X 0, 8, .inl (fun _ => 0))), (q4, .inl (cy X 0, 8, .inl (fun _ => -1)))]) rfl ?_
  refine n_putF C I (fs2 := [.ref q1, .int 0, .ref q2, .ref q3, .ref q4, .null, .null, .int 0, .int 0, .int 0, .null, .int 0, .int 0, .int 0, .int 0, .int 0, .int 0, .int 0, .int 0, .int 0, .int 0]) 4 tyX9 iaX9 tyX9_ok nmX9 rfl (by decide) aw107 rfl rfl rfl rfl (Nat.le_of_ble_eq_true rfl) rfl dX9_init_67 ?_
  refine n_aload C 0 dX9_init_70 rfl ?_
  refine n_sipush (v := 320) C dX9_init_71 (by decide) ?_
  refine n_newi (N := 320) C (by decide) (by decide) (by decide) (Nat.le_of_ble_eq_true rfl) (Nat.le_of_ble_eq_true rfl) dX9_init_74 (fun q5 => ?_)
  refine n_ws (ws2 := (h0, .inr (9, [.ref q1, .int 0, .ref q2, .ref q3, .ref q4, .null, .null, .int 0, .int 0, .int 0, .null, .int 0, .int 0, .int 0, .int 0, .int 0, .int 0, .int 0, .int 0, .int 0, .int 0])) :: [(q1, .inl (cy X 0, 3528, .inl (fun _ => 0))), (q2, .inl (cy X 1, 2, .inl (fun _ => 0))), (q3, .inl (cy X 0, 8, .inl (fun _ => 0))), (q4, .inl (cy X 0, 8, .inl (fun _ => -1))), (q5, .inl (cy X 0, 320, .inl (fun _ => 0)))]) rfl ?_
  refine n_putF C I (fs2 := [.ref q1, .int 0, .ref q2, .ref q3, .ref q4, .ref q5, .null, .int 0, .int 0, .int 0, .null, .int 0, .int 0, .int 0, .int 0, .int 0, .int 0, .int 0, .int 0, .int 0, .int 0]) 5 tyX9 iaX9 tyX9_ok nmX9 rfl (by decide) aw108 rfl rfl rfl rfl (Nat.le_of_ble_eq_true rfl) rfl dX9_init_76 ?_
  refine n_aload C 0 dX9_init_79 rfl ?_
  refine n_bipush (v := 120) C dX9_init_80 (by decide) ?_
  refine n_newi (N := 120) C (by decide) (by decide) (by decide) (Nat.le_of_ble_eq_true rfl) (Nat.le_of_ble_eq_true rfl) dX9_init_82 (fun q6 => ?_)
  refine n_ws (ws2 := (h0, .inr (9, [.ref q1, .int 0, .ref q2, .ref q3, .ref q4, .ref q5, .null, .int 0, .int 0, .int 0, .null, .int 0, .int 0, .int 0, .int 0, .int 0, .int 0, .int 0, .int 0, .int 0, .int 0])) :: [(q1, .inl (cy X 0, 3528, .inl (fun _ => 0))), (q2, .inl (cy X 1, 2, .inl (fun _ => 0))), (q3, .inl (cy X 0, 8, .inl (fun _ => 0))), (q4, .inl (cy X 0, 8, .inl (fun _ => -1))), (q5, .inl (cy X 0, 320, .inl (fun _ => 0))), (q6, .inl (cy X 0, 120, .inl (fun _ => 0)))]) rfl ?_
  refine n_putF C I (fs2 := [.ref q1, .int 0, .ref q2, .ref q3, .ref q4, .ref q5, .ref q6, .int 0, .int 0, .int 0, .null, .int 0, .int 0, .int 0, .int 0, .int 0, .int 0, .int 0, .int 0, .int 0, .int 0]) 6 tyX9 iaX9 tyX9_ok nmX9 rfl (by decide) aw109 rfl rfl rfl rfl (Nat.le_of_ble_eq_true rfl) rfl dX9_init_84 ?_
  refine n_aload C 0 dX9_init_87 rfl ?_
  refine n_bipush (v := 16) C dX9_init_88 (by decide) ?_
  refine n_newi (N := 16) C (by decide) (by decide) (by decide) (Nat.le_of_ble_eq_true rfl) (Nat.le_of_ble_eq_true rfl) dX9_init_90 (fun q7 => ?_)
  refine n_ws (ws2 := (h0, .inr (9, [.ref q1, .int 0, .ref q2, .ref q3, .ref q4, .ref q5, .ref q6, .int 0, .int 0, .int 0, .null, .int 0, .int 0, .int 0, .int 0, .int 0, .int 0, .int 0, .int 0, .int 0, .int 0])) :: [(q1, .inl (cy X 0, 3528, .inl (fun _ => 0))), (q2, .inl (cy X 1, 2, .inl (fun _ => 0))), (q3, .inl (cy X 0, 8, .inl (fun _ => 0))), (q4, .inl (cy X 0, 8, .inl (fun _ => -1))), (q5, .inl (cy X 0, 320, .inl (fun _ => 0))), (q6, .inl (cy X 0, 120, .inl (fun _ => 0))), (q7, .inl (cy X 0, 16, .inl (fun _ => 0)))]) rfl ?_
  refine n_putF C I (fs2 := [.ref q1, .int 0, .ref q2, .ref q3, .ref q4, .ref q5, .ref q6, .int 0, .int 0, .int 0, .ref q7, .int 0, .int 0, .int 0, .int 0, .int 0, .int 0, .int 0, .int 0, .int 0, .int 0]) 10 tyX9 iaX9 tyX9_ok nmX9 rfl (by decide) aw110 rfl rfl rfl rfl (Nat.le_of_ble_eq_true rfl) rfl dX9_init_92 ?_
  exact n_ret C I dX9_init_95 (fun k => [h0, q1, q2, q3, q4, q5, q6, q7].getD k 0) rfl (fun t hP hD => ⟨hP, hD⟩)
