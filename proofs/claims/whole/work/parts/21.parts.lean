theorem yd_X0_forget : yX0_forget.cls ≠ "java/lang/invoke/MethodHandle" ∧ yX0_forget.cls ≠ "java/lang/invoke/VarHandle" ∧ (parseMethodDescriptor yX0_forget.desc).map (fun d => d.parameters.length) = some 0 := by decide +kernel
def w_X0_forget  (M : Mem)  (Q : Mem → Prop) : Prop :=
  ∀ M1 : Mem, M1 = ms M 21 6 0 → (Q M1)
abbrev rm_X0_forget : Room := { frames := 3, cells := 0, slots := 0, locals := 60 }
set_option maxHeartbeats 4000000 in
set_option maxRecDepth 100000 in
theorem c_X0_forget (X : Cx)  (M : Mem)  (Q : Mem → Prop) (h : w_X0_forget  M  Q) : Ct yX0_forget cX0_forget 1 none rm_X0_forget X M [.ref (ad X 21)] (Qv X Q) := by
  refine ct_of (own := RX0) (lv := [(0, .ref (ad X 21))]) rfl (by decide) (Nat.le_of_ble_eq_true rfl) rfl ?_
  intro K C
  unfold w_X0_forget at h
  refine r_aload_n (pc := 0) C 0 dX0_forget_0 rfl ?_
  refine r_iconst (pc := 1) (v := 0) C dX0_forget_1 (by decide) ?_
  refine r_put (pc := 2) (k := 21) (j := 6) (Cn := RX0) (T := TX0) (N := 7) (host := "") C (by decide) (ce21 _) rfl iaX0 (by decide) (ce21 _) tyX0_ok nmX0 aw316 rfl rfl (tyX0_ok 6 (by decide)) (Nat.le_of_ble_eq_true rfl) dX0_forget_2 ?_
  refine r_topM (fun M1 eM1 => ?_)
  replace h := h M1 eM1
  exact r_vret (pc := 5) C dX0_forget_5 h
theorem yd_X0_keep : yX0_keep.cls ≠ "java/lang/invoke/MethodHandle" ∧ yX0_keep.cls ≠ "java/lang/invoke/VarHandle" ∧ (parseMethodDescriptor yX0_keep.desc).map (fun d => d.parameters.length) = some 3 := by decide +kernel
def w_X0_keep  (M : Mem) (x1 : Int32) (x2 : Int32) (x3 : Int32) (Q : Mem → Prop) : Prop :=
  vp_in (M 21 5) 24 ∧ (∀ M2 : Mem, M2 = ms M 22 (Int32.toNatClampNeg (M 21 5)) x1 → (vp_in (M2 21 5) 24 ∧ (∀ M4 : Mem, M4 = ms M2 23 (Int32.toNatClampNeg (M2 21 5)) x2 → (vp_in (M4 21 5) 24 ∧ (∀ M6 : Mem, M6 = ms M4 24 (Int32.toNatClampNeg (M4 21 5)) x3 → (∀ v7 : Int32, v7 = (((M6 21 5) + 1) - ((M6 21 5) + 1) / 24 * 24) → (∀ M8 : Mem, M8 = ms M6 21 5 v7 → (∀ v9 : Int32, v9 = (if 24 < ((M8 21 6) + 1) then 24 else ((M8 21 6) + 1)) → (∀ M10 : Mem, M10 = ms M8 21 6 v9 → (Q M10))))))))))
abbrev rm_X0_keep : Room := { frames := 3, cells := 0, slots := 0, locals := 60 }
set_option maxHeartbeats 4000000 in
set_option maxRecDepth 100000 in
theorem c_X0_keep (X : Cx)  (M : Mem) (x1 : Int32) (x2 : Int32) (x3 : Int32) (Q : Mem → Prop) (h : w_X0_keep  M x1 x2 x3 Q) : Ct yX0_keep cX0_keep 4 none rm_X0_keep X M [.ref (ad X 21), .int x1, .int x2, .int x3] (Qv X Q) := by
  refine ct_of (own := RX0) (lv := [(0, .ref (ad X 21)), (1, .int x1), (2, .int x2), (3, .int x3)]) rfl (by decide) (Nat.le_of_ble_eq_true rfl) rfl ?_
  intro K C
  unfold w_X0_keep at h
  refine r_aload_n (pc := 0) C 0 dX0_keep_0 rfl ?_
  refine r_get (pc := 1) (k := 21) (j := 0) (Cn := RX0) (T := TX0) (N := 7) C (by decide) (ce21 _) rfl iaX0 (by decide) aw54 rfl rfl dX0_keep_1 ?_
  refine r_aload_n (pc := 4) C 0 dX0_keep_4 rfl ?_
  refine r_get (pc := 5) (k := 21) (j := 5) (Cn := RX0) (T := TX0) (N := 7) C (by decide) (ce21 _) rfl iaX0 (by decide) aw396 rfl rfl dX0_keep_5 ?_
  refine r_iload_n (pc := 8) C 1 dX0_keep_8 rfl ?_
  obtain ⟨g1, h⟩ := h
  refine q_iast (pc := 9) (k := 22) (n := 24) (j := (Int32.toNatClampNeg (M 21 5))) C (by decide) (ce22) g1 rfl dX0_keep_9 ?_
  refine r_topM (fun M2 eM2 => ?_)
  replace h := h M2 eM2
  refine r_aload_n (pc := 10) C 0 dX0_keep_10 rfl ?_
  refine r_get (pc := 11) (k := 21) (j := 1) (Cn := RX0) (T := TX0) (N := 7) C (by decide) (ce21 _) rfl iaX0 (by decide) aw55 rfl rfl dX0_keep_11 ?_
  refine r_aload_n (pc := 14) C 0 dX0_keep_14 rfl ?_
  refine r_get (pc := 15) (k := 21) (j := 5) (Cn := RX0) (T := TX0) (N := 7) C (by decide) (ce21 _) rfl iaX0 (by decide) aw396 rfl rfl dX0_keep_15 ?_
  refine r_iload_n (pc := 18) C 2 dX0_keep_18 rfl ?_
  obtain ⟨g3, h⟩ := h
  refine q_iast (pc := 19) (k := 23) (n := 24) (j := (Int32.toNatClampNeg (M2 21 5))) C (by decide) (ce23) g3 rfl dX0_keep_19 ?_
  refine r_topM (fun M4 eM4 => ?_)
  replace h := h M4 eM4
  refine r_aload_n (pc := 20) C 0 dX0_keep_20 rfl ?_
  refine r_get (pc := 21) (k := 21) (j := 2) (Cn := RX0) (T := TX0) (N := 7) C (by decide) (ce21 _) rfl iaX0 (by decide) aw56 rfl rfl dX0_keep_21 ?_
  refine r_aload_n (pc := 24) C 0 dX0_keep_24 rfl ?_
  refine r_get (pc := 25) (k := 21) (j := 5) (Cn := RX0) (T := TX0) (N := 7) C (by decide) (ce21 _) rfl iaX0 (by decide) aw396 rfl rfl dX0_keep_25 ?_
  refine r_iload_n (pc := 28) C 3 dX0_keep_28 rfl ?_
  obtain ⟨g5, h⟩ := h
  refine q_iast (pc := 29) (k := 24) (n := 24) (j := (Int32.toNatClampNeg (M4 21 5))) C (by decide) (ce24) g5 rfl dX0_keep_29 ?_
  refine r_topM (fun M6 eM6 => ?_)
  replace h := h M6 eM6
  refine r_aload_n (pc := 30) C 0 dX0_keep_30 rfl ?_
  refine r_aload_n (pc := 31) C 0 dX0_keep_31 rfl ?_
  refine r_get (pc := 32) (k := 21) (j := 5) (Cn := RX0) (T := TX0) (N := 7) C (by decide) (ce21 _) rfl iaX0 (by decide) aw396 rfl rfl dX0_keep_32 ?_
  refine r_iconst (pc := 35) (v := 1) C dX0_keep_35 (by decide) ?_
  refine r_iadd (pc := 36) C dX0_keep_36 ?_
  refine r_bipush (pc := 37) (v := 24) C dX0_keep_37 (by decide) ?_
  refine r_irem (pc := 39) C dX0_keep_39 (by decide) ?_
  refine r_topi (fun v7 ev7 => ?_)
  replace h := h v7 ev7
  refine r_put (pc := 40) (k := 21) (j := 5) (Cn := RX0) (T := TX0) (N := 7) (host := "") C (by decide) (ce21 _) rfl iaX0 (by decide) (ce21 _) tyX0_ok nmX0 aw396 rfl rfl (tyX0_ok 5 (by decide)) (Nat.le_of_ble_eq_true rfl) dX0_keep_40 ?_
  refine r_topM (fun M8 eM8 => ?_)
  replace h := h M8 eM8
  refine r_aload_n (pc := 43) C 0 dX0_keep_43 rfl ?_
  refine r_aload_n (pc := 44) C 0 dX0_keep_44 rfl ?_
  refine r_get (pc := 45) (k := 21) (j := 6) (Cn := RX0) (T := TX0) (N := 7) C (by decide) (ce21 _) rfl iaX0 (by decide) aw316 rfl rfl dX0_keep_45 ?_
  refine r_iconst (pc := 48) (v := 1) C dX0_keep_48 (by decide) ?_
  refine r_iadd (pc := 49) C dX0_keep_49 ?_
  refine r_bipush (pc := 50) (v := 24) C dX0_keep_50 (by decide) ?_
  refine r_min (pc := 52) C aw464 (Nat.le_of_ble_eq_true rfl) (Nat.le_of_ble_eq_true rfl) dX0_keep_52 ?_
  refine r_topi (fun v9 ev9 => ?_)
  replace h := h v9 ev9
  refine r_put (pc := 55) (k := 21) (j := 6) (Cn := RX0) (T := TX0) (N := 7) (host := "") C (by decide) (ce21 _) rfl iaX0 (by decide) (ce21 _) tyX0_ok nmX0 aw316 rfl rfl (tyX0_ok 6 (by decide)) (Nat.le_of_ble_eq_true rfl) dX0_keep_55 ?_
  refine r_topM (fun M10 eM10 => ?_)
  replace h := h M10 eM10
  exact r_vret (pc := 58) C dX0_keep_58 h
theorem yd_X0_remember : yX0_remember.cls ≠ "java/lang/invoke/MethodHandle" ∧ yX0_remember.cls ≠ "java/lang/invoke/VarHandle" ∧ (parseMethodDescriptor yX0_remember.desc).map (fun d => d.parameters.length) = some 3 := by decide +kernel
def w_X0_remember (k1 : Nat) (M : Mem) (x2 : Int32) (x3 : Int32) (Q : Mem → Prop) : Prop :=
  ∀ v1 : Int32, v1 = ((((M 21 5) + 24) - 1) - (((M 21 5) + 24) - 1) / 24 * 24) → (w_X6_cellOf  M x2 x3 (fun r3 M2 => vp_in r3 36 ∧ (∀ v5 : Int32, v5 = (M2 (k1 + 9) (Int32.toNatClampNeg r3)) → (vp_in v1 24 ∧ (∀ M7 : Mem, M7 = ms M2 25 (Int32.toNatClampNeg v1) v5 → (vp_in r3 36 ∧ (∀ v9 : Int32, v9 = (M7 (k1 + 10) (Int32.toNatClampNeg r3)) → (vp_in v1 24 ∧ (∀ M11 : Mem, M11 = ms M7 26 (Int32.toNatClampNeg v1) v9 → (Q M11))))))))))
abbrev rm_X0_remember : Room := { frames := 6, cells := 0, slots := 0, locals := 120 }
set_option maxHeartbeats 4000000 in
set_option maxRecDepth 100000 in
theorem c_X0_remember (X : Cx) (k1 : Nat) (h1 : kd k1 = 6) (M : Mem) (x2 : Int32) (x3 : Int32) (Q : Mem → Prop) (h : w_X0_remember k1 M x2 x3 Q) : Ct yX0_remember cX0_remember 6 none rm_X0_remember X M [.ref (ad X 21), .ref (ad X k1), .int x2, .int x3] (Qv X Q) := by
  refine ct_of (own := RX0) (lv := [(0, .ref (ad X 21)), (1, .ref (ad X k1)), (2, .int x2), (3, .int x3)]) rfl (by decide) (Nat.le_of_ble_eq_true rfl) rfl ?_
  intro K C
  unfold w_X0_remember at h
  refine r_aload_n (pc := 0) C 0 dX0_remember_0 rfl ?_
  refine r_get (pc := 1) (k := 21) (j := 5) (Cn := RX0) (T := TX0) (N := 7) C (by decide) (ce21 _) rfl iaX0 (by decide) aw396 rfl rfl dX0_remember_1 ?_
  refine r_bipush (pc := 4) (v := 24) C dX0_remember_4 (by decide) ?_
  refine r_iadd (pc := 6) C dX0_remember_6 ?_
  refine r_iconst (pc := 7) (v := 1) C dX0_remember_7 (by decide) ?_
  refine r_isub (pc := 8) C dX0_remember_8 ?_
  refine r_bipush (pc := 9) (v := 24) C dX0_remember_9 (by decide) ?_
  refine r_irem (pc := 11) C dX0_remember_11 (by decide) ?_
  refine r_topi (fun v1 ev1 => ?_)
  replace h := h v1 ev1
  refine r_istore (pc := 12) (lv2 := [(4, .int v1), (0, .ref (ad X 21)), (1, .ref (ad X k1)), (2, .int x2), (3, .int x3)]) C dX0_remember_12 (by decide) rfl ?_
  refine r_iload_n (pc := 14) C 3 dX0_remember_14 rfl ?_
  refine r_iload_n (pc := 15) C 4 dX0_remember_15 rfl ?_
  have hM := c_X6_cellOf X  M x2 x3 _ h
  refine q_s0 (s1 := List.reverse [.int x2, .int x3] ++ []) rfl ?_
  refine r_callSNi (pc := 16) (As := [.int x2, .int x3]) (st := []) C 2 hM nm24 aw287 aw288 aw28 yd_X6_cellOf ⟨rfl, rfl⟩ ⟨Nat.le_of_ble_eq_true rfl, Nat.le_of_ble_eq_true rfl⟩ rfl (Nat.le_of_ble_eq_true rfl) dX0_remember_16 (fun r3 M2 h => ?_)
  refine r_istore (pc := 19) (lv2 := [(5, .int r3), (4, .int v1), (0, .ref (ad X 21)), (1, .ref (ad X k1)), (2, .int x2), (3, .int x3)]) C dX0_remember_19 (by decide) rfl ?_
  refine r_aload_n (pc := 21) C 2 dX0_remember_21 rfl ?_
  refine r_get (pc := 22) (k := 21) (j := 3) (Cn := RX0) (T := TX0) (N := 7) C (by decide) (ce21 _) rfl iaX0 (by decide) aw57 rfl rfl dX0_remember_22 ?_
  refine r_iload (pc := 25) C 1 dX0_remember_25 rfl ?_
  refine r_aload_n (pc := 27) C 3 dX0_remember_27 rfl ?_
  refine r_getN (pc := 28) (k := k1) (j := 14) (Cn := RX6) (T := TX6) (N := 16) C (bdT h1) (ceT h1 _) rfl iaX6 (by decide) nf35 rfl rfl dX0_remember_28 ?_
  refine r_iload (pc := 31) C 0 dX0_remember_31 rfl ?_
  obtain ⟨g4, h⟩ := h
  refine q_iald (pc := 33) (k := (k1 + 9)) (n := 36) (j := (Int32.toNatClampNeg r3)) C (bdT9 h1) (ceT9 h1 _) g4 rfl dX0_remember_33 ?_
  refine r_topi (fun v5 ev5 => ?_)
  replace h := h v5 ev5
  obtain ⟨g6, h⟩ := h
  refine q_iast (pc := 34) (k := 25) (n := 24) (j := (Int32.toNatClampNeg v1)) C (by decide) (ce25) g6 rfl dX0_remember_34 ?_
  refine r_topM (fun M7 eM7 => ?_)
  replace h := h M7 eM7
  refine r_aload_n (pc := 35) C 2 dX0_remember_35 rfl ?_
  refine r_get (pc := 36) (k := 21) (j := 4) (Cn := RX0) (T := TX0) (N := 7) C (by decide) (ce21 _) rfl iaX0 (by decide) aw58 rfl rfl dX0_remember_36 ?_
  refine r_iload (pc := 39) C 1 dX0_remember_39 rfl ?_
  refine r_aload_n (pc := 41) C 3 dX0_remember_41 rfl ?_
  refine r_getN (pc := 42) (k := k1) (j := 15) (Cn := RX6) (T := TX6) (N := 16) C (bdT h1) (ceT h1 _) rfl iaX6 (by decide) nf37 rfl rfl dX0_remember_42 ?_
  refine r_iload (pc := 45) C 0 dX0_remember_45 rfl ?_
  obtain ⟨g8, h⟩ := h
  refine q_iald (pc := 47) (k := (k1 + 10)) (n := 36) (j := (Int32.toNatClampNeg r3)) C (bdT10 h1) (ceT10 h1 _) g8 rfl dX0_remember_47 ?_
  refine r_topi (fun v9 ev9 => ?_)
  replace h := h v9 ev9
  obtain ⟨g10, h⟩ := h
  refine q_iast (pc := 48) (k := 26) (n := 24) (j := (Int32.toNatClampNeg v1)) C (by decide) (ce26) g10 rfl dX0_remember_48 ?_
  refine r_topM (fun M11 eM11 => ?_)
  replace h := h M11 eM11
  exact r_vret (pc := 49) C dX0_remember_49 h
theorem yd_X0_stepBack : yX0_stepBack.cls ≠ "java/lang/invoke/MethodHandle" ∧ yX0_stepBack.cls ≠ "java/lang/invoke/VarHandle" ∧ (parseMethodDescriptor yX0_stepBack.desc).map (fun d => d.parameters.length) = some 3 := by decide +kernel
def w_X0_stepBack (k1 : Nat) (M : Mem) (x2 : Int32) (x3 : Int32) (Q : Mem → Prop) : Prop :=
  w_X6_cellOf  M x2 x3 (fun r2 M1 => w_X6_cross k1 M1 x2 x3 (fun M3 => ∀ v5 : Int32, v5 = (M3 21 5) → (vp_in v5 24 ∧ (∀ v7 : Int32, v7 = (M3 25 (Int32.toNatClampNeg v5)) → (vp_in r2 36 ∧ (∀ M9 : Mem, M9 = ms M3 (k1 + 9) (Int32.toNatClampNeg r2) v7 → (∀ v10 : Int32, v10 = (M9 21 5) → (vp_in v10 24 ∧ (∀ v12 : Int32, v12 = (M9 26 (Int32.toNatClampNeg v10)) → (vp_in r2 36 ∧ (∀ M14 : Mem, M14 = ms M9 (k1 + 10) (Int32.toNatClampNeg r2) v12 → (Q M14))))))))))))
abbrev rm_X0_stepBack : Room := { frames := 6, cells := 0, slots := 0, locals := 120 }
set_option maxHeartbeats 4000000 in
set_option maxRecDepth 100000 in
theorem c_X0_stepBack (X : Cx) (k1 : Nat) (h1 : kd k1 = 6) (M : Mem) (x2 : Int32) (x3 : Int32) (Q : Mem → Prop) (h : w_X0_stepBack k1 M x2 x3 Q) : Ct yX0_stepBack cX0_stepBack 5 none rm_X0_stepBack X M [.ref (ad X 21), .ref (ad X k1), .int x2, .int x3] (Qv X Q) := by
  refine ct_of (own := RX0) (lv := [(0, .ref (ad X 21)), (1, .ref (ad X k1)), (2, .int x2), (3, .int x3)]) rfl (by decide) (Nat.le_of_ble_eq_true rfl) rfl ?_
  intro K C
  unfold w_X0_stepBack at h
  refine r_iload_n (pc := 0) C 2 dX0_stepBack_0 rfl ?_
  refine r_iload_n (pc := 1) C 3 dX0_stepBack_1 rfl ?_
  have hM := c_X6_cellOf X  M x2 x3 _ h
  refine q_s0 (s1 := List.reverse [.int x2, .int x3] ++ []) rfl ?_
  refine r_callSNi (pc := 2) (As := [.int x2, .int x3]) (st := []) C 2 hM nm24 aw287 aw288 aw28 yd_X6_cellOf ⟨rfl, rfl⟩ ⟨Nat.le_of_ble_eq_true rfl, Nat.le_of_ble_eq_true rfl⟩ rfl (Nat.le_of_ble_eq_true rfl) dX0_stepBack_2 (fun r2 M1 h => ?_)
  refine r_istore (pc := 5) (lv2 := [(4, .int r2), (0, .ref (ad X 21)), (1, .ref (ad X k1)), (2, .int x2), (3, .int x3)]) C dX0_stepBack_5 (by decide) rfl ?_
  refine r_aload_n (pc := 7) C 2 dX0_stepBack_7 rfl ?_
  refine r_iload_n (pc := 8) C 3 dX0_stepBack_8 rfl ?_
  refine r_iload_n (pc := 9) C 4 dX0_stepBack_9 rfl ?_
  have hM := c_X6_cross X k1 h1 M1 x2 x3 _ h
  refine q_s0 (s1 := List.reverse [.int x2, .int x3] ++ .ref (ad X k1) :: []) rfl ?_
  refine r_callVNv (pc := 10) (k := k1) (As := [.int x2, .int x3]) (st := []) C 2 (bdT h1) (ceT h1 _) rfl aw401 aw402 hM nm25 aw403 aw28 yd_X6_cross ⟨rfl, rfl⟩ ⟨Nat.le_of_ble_eq_true rfl, Nat.le_of_ble_eq_true rfl⟩ rfl (Nat.le_of_ble_eq_true rfl) dX0_stepBack_10 (fun M3 h => ?_)
  refine r_aload_n (pc := 13) C 2 dX0_stepBack_13 rfl ?_
  refine r_getN (pc := 14) (k := k1) (j := 14) (Cn := RX6) (T := TX6) (N := 16) C (bdT h1) (ceT h1 _) rfl iaX6 (by decide) nf35 rfl rfl dX0_stepBack_14 ?_
  refine r_iload (pc := 17) C 0 dX0_stepBack_17 rfl ?_
  refine r_aload_n (pc := 19) C 1 dX0_stepBack_19 rfl ?_
  refine r_get (pc := 20) (k := 21) (j := 3) (Cn := RX0) (T := TX0) (N := 7) C (by decide) (ce21 _) rfl iaX0 (by decide) aw57 rfl rfl dX0_stepBack_20 ?_
  refine r_aload_n (pc := 23) C 1 dX0_stepBack_23 rfl ?_
  refine r_get (pc := 24) (k := 21) (j := 5) (Cn := RX0) (T := TX0) (N := 7) C (by decide) (ce21 _) rfl iaX0 (by decide) aw396 rfl rfl dX0_stepBack_24 ?_
  refine r_topi (fun v5 ev5 => ?_)
  replace h := h v5 ev5
  obtain ⟨g6, h⟩ := h
  refine q_iald (pc := 27) (k := 25) (n := 24) (j := (Int32.toNatClampNeg v5)) C (by decide) (ce25 _) g6 rfl dX0_stepBack_27 ?_
  refine r_topi (fun v7 ev7 => ?_)
  replace h := h v7 ev7
  obtain ⟨g8, h⟩ := h
  refine q_iast (pc := 28) (k := (k1 + 9)) (n := 36) (j := (Int32.toNatClampNeg r2)) C (bdT9 h1) (ceT9 h1) g8 rfl dX0_stepBack_28 ?_
  refine r_topM (fun M9 eM9 => ?_)
  replace h := h M9 eM9
  refine r_aload_n (pc := 29) C 2 dX0_stepBack_29 rfl ?_
  refine r_getN (pc := 30) (k := k1) (j := 15) (Cn := RX6) (T := TX6) (N := 16) C (bdT h1) (ceT h1 _) rfl iaX6 (by decide) nf37 rfl rfl dX0_stepBack_30 ?_
  refine r_iload (pc := 33) C 0 dX0_stepBack_33 rfl ?_
  refine r_aload_n (pc := 35) C 1 dX0_stepBack_35 rfl ?_
  refine r_get (pc := 36) (k := 21) (j := 4) (Cn := RX0) (T := TX0) (N := 7) C (by decide) (ce21 _) rfl iaX0 (by decide) aw58 rfl rfl dX0_stepBack_36 ?_
  refine r_aload_n (pc := 39) C 1 dX0_stepBack_39 rfl ?_
  refine r_get (pc := 40) (k := 21) (j := 5) (Cn := RX0) (T := TX0) (N := 7) C (by decide) (ce21 _) rfl iaX0 (by decide) aw396 rfl rfl dX0_stepBack_40 ?_
  refine r_topi (fun v10 ev10 => ?_)
  replace h := h v10 ev10
  obtain ⟨g11, h⟩ := h
  refine q_iald (pc := 43) (k := 26) (n := 24) (j := (Int32.toNatClampNeg v10)) C (by decide) (ce26 _) g11 rfl dX0_stepBack_43 ?_
  refine r_topi (fun v12 ev12 => ?_)
  replace h := h v12 ev12
  obtain ⟨g13, h⟩ := h
  refine q_iast (pc := 44) (k := (k1 + 10)) (n := 36) (j := (Int32.toNatClampNeg r2)) C (bdT10 h1) (ceT10 h1) g13 rfl dX0_stepBack_44 ?_
  refine r_topM (fun M14 eM14 => ?_)
  replace h := h M14 eM14
  exact r_vret (pc := 45) C dX0_stepBack_45 h
theorem yd_X0_takeBack : yX0_takeBack.cls ≠ "java/lang/invoke/MethodHandle" ∧ yX0_takeBack.cls ≠ "java/lang/invoke/VarHandle" ∧ (parseMethodDescriptor yX0_takeBack.desc).map (fun d => d.parameters.length) = some 1 := by decide +kernel
def w_X0_takeBack (k1 : Nat) (M : Mem)  (Q : Mem → Prop) : Prop :=
  ∀ v1 : Int32, v1 = ((((M 21 5) + 24) - 1) - (((M 21 5) + 24) - 1) / 24 * 24) → (∀ M2 : Mem, M2 = ms M 21 5 v1 → (∀ v3 : Int32, v3 = ((M2 21 6) - 1) → (∀ M4 : Mem, M4 = ms M2 21 6 v3 → (∀ v5 : Int32, v5 = (M4 21 5) → (vp_in v5 24 ∧ (∀ v7 : Int32, v7 = (M4 22 (Int32.toNatClampNeg v5)) → ((v7 = 1 → (∀ v9 : Int32, v9 = (M4 21 5) → (vp_in v9 24 ∧ (∀ v11 : Int32, v11 = (M4 21 5) → (vp_in v11 24 ∧ (w_X0_stepBack k1 M4 (M4 23 (Int32.toNatClampNeg v9)) (M4 24 (Int32.toNatClampNeg v11)) (fun M13 => Q M13))))))) ∧ (v7 = 2 → (∀ v16 : Int32, v16 = ((M4 k1 5) - 1) → (∀ M17 : Mem, M17 = ms M4 k1 5 v16 → (Q M17)))) ∧ (v7 = 3 → (∀ v19 : Int32, v19 = (M4 21 5) → (vp_in v19 24 ∧ (∀ v21 : Int32, v21 = (M4 23 (Int32.toNatClampNeg v19)) → (vp_in v21 6 ∧ (∀ v23 : Int32, v23 = ((M4 (k1 + 6) (Int32.toNatClampNeg v21)) - 1) → (vp_in v21 6 ∧ (∀ M25 : Mem, M25 = ms M4 (k1 + 6) (Int32.toNatClampNeg v21) v23 → (Q M25))))))))) ∧ (v7 = 4 → (∀ v27 : Int32, v27 = (M4 21 5) → (vp_in v27 24 ∧ (∀ v29 : Int32, v29 = (M4 23 (Int32.toNatClampNeg v27)) → (vp_in v29 6 ∧ (∀ v31 : Int32, v31 = ((M4 (k1 + 6) (Int32.toNatClampNeg v29)) + 1) → (vp_in v29 6 ∧ (∀ M33 : Mem, M33 = ms M4 (k1 + 6) (Int32.toNatClampNeg v29) v31 → (Q M33))))))))) ∧ (v7 = 5 → (∀ v35 : Int32, v35 = ((M4 k1 2) - 1) → (∀ M36 : Mem, M36 = ms M4 k1 2 v35 → (Q M36)))) ∧ (¬ v7 = 1 → ¬ v7 = 2 → ¬ v7 = 3 → ¬ v7 = 4 → ¬ v7 = 5 → (Q M4)))))))))
abbrev rm_X0_takeBack : Room := { frames := 9, cells := 0, slots := 0, locals := 180 }
set_option maxHeartbeats 4000000 in
set_option maxRecDepth 100000 in
theorem c_X0_takeBack (X : Cx) (k1 : Nat) (h1 : kd k1 = 6) (M : Mem)  (Q : Mem → Prop) (h : w_X0_takeBack k1 M  Q) : Ct yX0_takeBack cX0_takeBack 2 none rm_X0_takeBack X M [.ref (ad X 21), .ref (ad X k1)] (Qv X Q) := by
  refine ct_of (own := RX0) (lv := [(0, .ref (ad X 21)), (1, .ref (ad X k1))]) rfl (by decide) (Nat.le_of_ble_eq_true rfl) rfl ?_
  intro K C
  unfold w_X0_takeBack at h
  refine r_aload_n (pc := 0) C 0 dX0_takeBack_0 rfl ?_
  refine r_aload_n (pc := 1) C 0 dX0_takeBack_1 rfl ?_
  refine r_get (pc := 2) (k := 21) (j := 5) (Cn := RX0) (T := TX0) (N := 7) C (by decide) (ce21 _) rfl iaX0 (by decide) aw396 rfl rfl dX0_takeBack_2 ?_
  refine r_bipush (pc := 5) (v := 24) C dX0_takeBack_5 (by decide) ?_
  refine r_iadd (pc := 7) C dX0_takeBack_7 ?_
  refine r_iconst (pc := 8) (v := 1) C dX0_takeBack_8 (by decide) ?_
  refine r_isub (pc := 9) C dX0_takeBack_9 ?_
  refine r_bipush (pc := 10) (v := 24) C dX0_takeBack_10 (by decide) ?_
  refine r_irem (pc := 12) C dX0_takeBack_12 (by decide) ?_
  refine r_topi (fun v1 ev1 => ?_)
  replace h := h v1 ev1
  refine r_put (pc := 13) (k := 21) (j := 5) (Cn := RX0) (T := TX0) (N := 7) (host := "") C (by decide) (ce21 _) rfl iaX0 (by decide) (ce21 _) tyX0_ok nmX0 aw396 rfl rfl (tyX0_ok 5 (by decide)) (Nat.le_of_ble_eq_true rfl) dX0_takeBack_13 ?_
  refine r_topM (fun M2 eM2 => ?_)
  replace h := h M2 eM2
  refine r_aload_n (pc := 16) C 0 dX0_takeBack_16 rfl ?_
  refine r_dup (pc := 17) C dX0_takeBack_17 rfl ?_
  refine r_get (pc := 18) (k := 21) (j := 6) (Cn := RX0) (T := TX0) (N := 7) C (by decide) (ce21 _) rfl iaX0 (by decide) aw316 rfl rfl dX0_takeBack_18 ?_
  refine r_iconst (pc := 21) (v := 1) C dX0_takeBack_21 (by decide) ?_
  refine r_isub (pc := 22) C dX0_takeBack_22 ?_
  refine r_topi (fun v3 ev3 => ?_)
  replace h := h v3 ev3
  refine r_put (pc := 23) (k := 21) (j := 6) (Cn := RX0) (T := TX0) (N := 7) (host := "") C (by decide) (ce21 _) rfl iaX0 (by decide) (ce21 _) tyX0_ok nmX0 aw316 rfl rfl (tyX0_ok 6 (by decide)) (Nat.le_of_ble_eq_true rfl) dX0_takeBack_23 ?_
  refine r_topM (fun M4 eM4 => ?_)
  replace h := h M4 eM4
  refine r_aload_n (pc := 26) C 0 dX0_takeBack_26 rfl ?_
  refine r_get (pc := 27) (k := 21) (j := 0) (Cn := RX0) (T := TX0) (N := 7) C (by decide) (ce21 _) rfl iaX0 (by decide) aw54 rfl rfl dX0_takeBack_27 ?_
  refine r_aload_n (pc := 30) C 0 dX0_takeBack_30 rfl ?_
  refine r_get (pc := 31) (k := 21) (j := 5) (Cn := RX0) (T := TX0) (N := 7) C (by decide) (ce21 _) rfl iaX0 (by decide) aw396 rfl rfl dX0_takeBack_31 ?_
  refine r_topi (fun v5 ev5 => ?_)
  replace h := h v5 ev5
  obtain ⟨g6, h⟩ := h
  refine q_iald (pc := 34) (k := 22) (n := 24) (j := (Int32.toNatClampNeg v5)) C (by decide) (ce22 _) g6 rfl dX0_takeBack_34 ?_
  refine r_topi (fun v7 ev7 => ?_)
  replace h := h v7 ev7
  by_cases e8 : v7 = 1
  · have h := h.1 e8
    refine r_tabIn (pc := 35) (off := 33) (tgt := 68) C 1 e8 dX0_takeBack_35 (by decide) (by decide) (by decide) (by decide) ?_
    refine r_aload_n (pc := 68) C 0 dX0_takeBack_68 rfl ?_
    refine r_aload_n (pc := 69) C 1 dX0_takeBack_69 rfl ?_
    refine r_aload_n (pc := 70) C 0 dX0_takeBack_70 rfl ?_
    refine r_get (pc := 71) (k := 21) (j := 1) (Cn := RX0) (T := TX0) (N := 7) C (by decide) (ce21 _) rfl iaX0 (by decide) aw55 rfl rfl dX0_takeBack_71 ?_
    refine r_aload_n (pc := 74) C 0 dX0_takeBack_74 rfl ?_
    refine r_get (pc := 75) (k := 21) (j := 5) (Cn := RX0) (T := TX0) (N := 7) C (by decide) (ce21 _) rfl iaX0 (by decide) aw396 rfl rfl dX0_takeBack_75 ?_
    refine r_topi (fun v9 ev9 => ?_)
    replace h := h v9 ev9
    obtain ⟨g10, h⟩ := h
    refine q_iald (pc := 78) (k := 23) (n := 24) (j := (Int32.toNatClampNeg v9)) C (by decide) (ce23 _) g10 rfl dX0_takeBack_78 ?_
    refine r_aload_n (pc := 79) C 0 dX0_takeBack_79 rfl ?_
    refine r_get (pc := 80) (k := 21) (j := 2) (Cn := RX0) (T := TX0) (N := 7) C (by decide) (ce21 _) rfl iaX0 (by decide) aw56 rfl rfl dX0_takeBack_80 ?_
    refine r_aload_n (pc := 83) C 0 dX0_takeBack_83 rfl ?_
    refine r_get (pc := 84) (k := 21) (j := 5) (Cn := RX0) (T := TX0) (N := 7) C (by decide) (ce21 _) rfl iaX0 (by decide) aw396 rfl rfl dX0_takeBack_84 ?_
    refine r_topi (fun v11 ev11 => ?_)
    replace h := h v11 ev11
    obtain ⟨g12, h⟩ := h
    refine q_iald (pc := 87) (k := 24) (n := 24) (j := (Int32.toNatClampNeg v11)) C (by decide) (ce24 _) g12 rfl dX0_takeBack_87 ?_
    have hM := c_X0_stepBack X k1 h1 M4 (M4 23 (Int32.toNatClampNeg v9)) (M4 24 (Int32.toNatClampNeg v11)) _ h
    refine q_s0 (s1 := List.reverse [.ref (ad X k1), .int (M4 23 (Int32.toNatClampNeg v9)), .int (M4 24 (Int32.toNatClampNeg v11))] ++ .ref (ad X 21) :: []) rfl ?_
    refine r_callVv (pc := 88) (k := 21) (As := [.ref (ad X k1), .int (M4 23 (Int32.toNatClampNeg v9)), .int (M4 24 (Int32.toNatClampNeg v11))]) (st := []) C 3 (by decide) (ce21 _) rfl aw398 aw399 hM aw397 aw400 aw20 yd_X0_stepBack ⟨rfl, rfl⟩ ⟨Nat.le_of_ble_eq_true rfl, Nat.le_of_ble_eq_true rfl⟩ rfl (Nat.le_of_ble_eq_true rfl) dX0_takeBack_88 (fun M13 h => ?_)
    refine r_goto (pc := 91) (tgt := 162) C dX0_takeBack_91 (by decide) ?_
    exact r_vret (pc := 162) C dX0_takeBack_162 h
  · skip
    by_cases e15 : v7 = 2
    · have h := h.2.1 e15
      refine r_tabIn (pc := 35) (off := 59) (tgt := 94) C 2 e15 dX0_takeBack_35 (by decide) (by decide) (by decide) (by decide) ?_
      refine r_aload_n (pc := 94) C 1 dX0_takeBack_94 rfl ?_
      refine r_dup (pc := 95) C dX0_takeBack_95 rfl ?_
      refine r_getN (pc := 96) (k := k1) (j := 5) (Cn := RX6) (T := TX6) (N := 16) C (bdT h1) (ceT h1 _) rfl iaX6 (by decide) nf18 rfl rfl dX0_takeBack_96 ?_
      refine r_iconst (pc := 99) (v := 1) C dX0_takeBack_99 (by decide) ?_
      refine r_isub (pc := 100) C dX0_takeBack_100 ?_
      refine r_topi (fun v16 ev16 => ?_)
      replace h := h v16 ev16
      refine r_putN (pc := 101) (k := k1) (j := 5) (Cn := RX6) (T := TX6) (N := 16) C (bdT h1) (ceT h1 _) rfl iaX6 (by decide) (ceT h1 _) tyX6_ok nmX6 nf18 rfl rfl (tyX6_ok 5 (by decide)) (Nat.le_of_ble_eq_true rfl) dX0_takeBack_101 ?_
      refine r_topM (fun M17 eM17 => ?_)
      replace h := h M17 eM17
      refine r_goto (pc := 104) (tgt := 162) C dX0_takeBack_104 (by decide) ?_
      exact r_vret (pc := 162) C dX0_takeBack_162 h
    · skip
      by_cases e18 : v7 = 3
      · have h := h.2.2.1 e18
        refine r_tabIn (pc := 35) (off := 72) (tgt := 107) C 3 e18 dX0_takeBack_35 (by decide) (by decide) (by decide) (by decide) ?_
        refine r_aload_n (pc := 107) C 1 dX0_takeBack_107 rfl ?_
        refine r_getN (pc := 108) (k := k1) (j := 11) (Cn := RX6) (T := TX6) (N := 16) C (bdT h1) (ceT h1 _) rfl iaX6 (by decide) nf29 rfl rfl dX0_takeBack_108 ?_
        refine r_aload_n (pc := 111) C 0 dX0_takeBack_111 rfl ?_
        refine r_get (pc := 112) (k := 21) (j := 1) (Cn := RX0) (T := TX0) (N := 7) C (by decide) (ce21 _) rfl iaX0 (by decide) aw55 rfl rfl dX0_takeBack_112 ?_
        refine r_aload_n (pc := 115) C 0 dX0_takeBack_115 rfl ?_
        refine r_get (pc := 116) (k := 21) (j := 5) (Cn := RX0) (T := TX0) (N := 7) C (by decide) (ce21 _) rfl iaX0 (by decide) aw396 rfl rfl dX0_takeBack_116 ?_
        refine r_topi (fun v19 ev19 => ?_)
        replace h := h v19 ev19
        obtain ⟨g20, h⟩ := h
        refine q_iald (pc := 119) (k := 23) (n := 24) (j := (Int32.toNatClampNeg v19)) C (by decide) (ce23 _) g20 rfl dX0_takeBack_119 ?_
        refine r_topi (fun v21 ev21 => ?_)
        replace h := h v21 ev21
        refine r_dup2 (pc := 120) C dX0_takeBack_120 rfl rfl ?_
        obtain ⟨g22, h⟩ := h
        refine q_iald (pc := 121) (k := (k1 + 6)) (n := 6) (j := (Int32.toNatClampNeg v21)) C (bdT6 h1) (ceT6 h1 _) g22 rfl dX0_takeBack_121 ?_
        refine r_iconst (pc := 122) (v := 1) C dX0_takeBack_122 (by decide) ?_
        refine r_isub (pc := 123) C dX0_takeBack_123 ?_
        refine r_topi (fun v23 ev23 => ?_)
        replace h := h v23 ev23
        obtain ⟨g24, h⟩ := h
        refine q_iast (pc := 124) (k := (k1 + 6)) (n := 6) (j := (Int32.toNatClampNeg v21)) C (bdT6 h1) (ceT6 h1) g24 rfl dX0_takeBack_124 ?_
        refine r_topM (fun M25 eM25 => ?_)
        replace h := h M25 eM25
        refine r_goto (pc := 125) (tgt := 162) C dX0_takeBack_125 (by decide) ?_
        exact r_vret (pc := 162) C dX0_takeBack_162 h
      · skip
        by_cases e26 : v7 = 4
        · have h := h.2.2.2.1 e26
          refine r_tabIn (pc := 35) (off := 93) (tgt := 128) C 4 e26 dX0_takeBack_35 (by decide) (by decide) (by decide) (by decide) ?_
          refine r_aload_n (pc := 128) C 1 dX0_takeBack_128 rfl ?_
          refine r_getN (pc := 129) (k := k1) (j := 11) (Cn := RX6) (T := TX6) (N := 16) C (bdT h1) (ceT h1 _) rfl iaX6 (by decide) nf29 rfl rfl dX0_takeBack_129 ?_
          refine r_aload_n (pc := 132) C 0 dX0_takeBack_132 rfl ?_
          refine r_get (pc := 133) (k := 21) (j := 1) (Cn := RX0) (T := TX0) (N := 7) C (by decide) (ce21 _) rfl iaX0 (by decide) aw55 rfl rfl dX0_takeBack_133 ?_
          refine r_aload_n (pc := 136) C 0 dX0_takeBack_136 rfl ?_
          refine r_get (pc := 137) (k := 21) (j := 5) (Cn := RX0) (T := TX0) (N := 7) C (by decide) (ce21 _) rfl iaX0 (by decide) aw396 rfl rfl dX0_takeBack_137 ?_
          refine r_topi (fun v27 ev27 => ?_)
          replace h := h v27 ev27
          obtain ⟨g28, h⟩ := h
          refine q_iald (pc := 140) (k := 23) (n := 24) (j := (Int32.toNatClampNeg v27)) C (by decide) (ce23 _) g28 rfl dX0_takeBack_140 ?_
          refine r_topi (fun v29 ev29 => ?_)
          replace h := h v29 ev29
          refine r_dup2 (pc := 141) C dX0_takeBack_141 rfl rfl ?_
          obtain ⟨g30, h⟩ := h
          refine q_iald (pc := 142) (k := (k1 + 6)) (n := 6) (j := (Int32.toNatClampNeg v29)) C (bdT6 h1) (ceT6 h1 _) g30 rfl dX0_takeBack_142 ?_
          refine r_iconst (pc := 143) (v := 1) C dX0_takeBack_143 (by decide) ?_
          refine r_iadd (pc := 144) C dX0_takeBack_144 ?_
          refine r_topi (fun v31 ev31 => ?_)
          replace h := h v31 ev31
          obtain ⟨g32, h⟩ := h
          refine q_iast (pc := 145) (k := (k1 + 6)) (n := 6) (j := (Int32.toNatClampNeg v29)) C (bdT6 h1) (ceT6 h1) g32 rfl dX0_takeBack_145 ?_
          refine r_topM (fun M33 eM33 => ?_)
          replace h := h M33 eM33
          refine r_goto (pc := 146) (tgt := 162) C dX0_takeBack_146 (by decide) ?_
          exact r_vret (pc := 162) C dX0_takeBack_162 h
        · skip
          by_cases e34 : v7 = 5
          · have h := h.2.2.2.2.1 e34
            refine r_tabIn (pc := 35) (off := 114) (tgt := 149) C 5 e34 dX0_takeBack_35 (by decide) (by decide) (by decide) (by decide) ?_
            refine r_aload_n (pc := 149) C 1 dX0_takeBack_149 rfl ?_
            refine r_dup (pc := 150) C dX0_takeBack_150 rfl ?_
            refine r_getN (pc := 151) (k := k1) (j := 2) (Cn := RX6) (T := TX6) (N := 16) C (bdT h1) (ceT h1 _) rfl iaX6 (by decide) nf10 rfl rfl dX0_takeBack_151 ?_
            refine r_iconst (pc := 154) (v := 1) C dX0_takeBack_154 (by decide) ?_
            refine r_isub (pc := 155) C dX0_takeBack_155 ?_
            refine r_topi (fun v35 ev35 => ?_)
            replace h := h v35 ev35
            refine r_putN (pc := 156) (k := k1) (j := 2) (Cn := RX6) (T := TX6) (N := 16) C (bdT h1) (ceT h1 _) rfl iaX6 (by decide) (ceT h1 _) tyX6_ok nmX6 nf10 rfl rfl (tyX6_ok 2 (by decide)) (Nat.le_of_ble_eq_true rfl) dX0_takeBack_156 ?_
            refine r_topM (fun M36 eM36 => ?_)
            replace h := h M36 eM36
            refine r_goto (pc := 159) (tgt := 162) C dX0_takeBack_159 (by decide) ?_
            exact r_vret (pc := 162) C dX0_takeBack_162 h
          · skip
            have h := h.2.2.2.2.2 e8 e15 e18 e26 e34
            refine r_tabOut (pc := 35) (tgt := 162) C dX0_takeBack_35 (by have ke8 := ne_toInt (n := 1) e8 (by decide); have ke15 := ne_toInt (n := 2) e15 (by decide); have ke18 := ne_toInt (n := 3) e18 (by decide); have ke26 := ne_toInt (n := 4) e26 (by decide); have ke34 := ne_toInt (n := 5) e34 (by decide); omega) (by decide) ?_
            exact r_vret (pc := 162) C dX0_takeBack_162 h
theorem yd_X1_leave : yX1_leave.cls ≠ "java/lang/invoke/MethodHandle" ∧ yX1_leave.cls ≠ "java/lang/invoke/VarHandle" ∧ (parseMethodDescriptor yX1_leave.desc).map (fun d => d.parameters.length) = some 1 := by decide +kernel
def w_X1_leave  (M : Mem) (x1 : Int32) (Q : Mem → Prop) : Prop :=
  ((16 ≤ (M 27 1)) → (Q M)) ∧ ((¬ 16 ≤ (M 27 1)) → (vp_in (M 27 1) 16 ∧ (∀ M3 : Mem, M3 = ms M 28 (Int32.toNatClampNeg (M 27 1)) x1 → (∀ v4 : Int32, v4 = ((M3 27 1) + 1) → (∀ M5 : Mem, M5 = ms M3 27 1 v4 → (Q M5))))))
abbrev rm_X1_leave : Room := { frames := 3, cells := 0, slots := 0, locals := 60 }
set_option maxHeartbeats 4000000 in
set_option maxRecDepth 100000 in
theorem c_X1_leave (X : Cx)  (M : Mem) (x1 : Int32) (Q : Mem → Prop) (h : w_X1_leave  M x1 Q) : Ct yX1_leave cX1_leave 2 none rm_X1_leave X M [.ref (ad X 27), .int x1] (Qv X Q) := by
  refine ct_of (own := RX1) (lv := [(0, .ref (ad X 27)), (1, .int x1)]) rfl (by decide) (Nat.le_of_ble_eq_true rfl) rfl ?_
  intro K C
  unfold w_X1_leave at h
  refine r_aload_n (pc := 0) C 0 dX1_leave_0 rfl ?_
  refine r_get (pc := 1) (k := 27) (j := 1) (Cn := RX1) (T := TX1) (N := 2) C (by decide) (ce27 _) rfl iaX1 (by decide) aw912 rfl rfl dX1_leave_1 ?_
  refine r_bipush (pc := 4) (v := 16) C dX1_leave_4 (by decide) ?_
  refine r_icmp_ge (pc := 6) (tgt := 29) C dX1_leave_6 (by decide) (fun c1 => ?_) (fun c1 => ?_)
  · have h := h.1 c1
    exact r_vret (pc := 29) C dX1_leave_29 h
  · have h := h.2 c1
    refine r_aload_n (pc := 9) C 0 dX1_leave_9 rfl ?_
    refine r_get (pc := 10) (k := 27) (j := 0) (Cn := RX1) (T := TX1) (N := 2) C (by decide) (ce27 _) rfl iaX1 (by decide) aw62 rfl rfl dX1_leave_10 ?_
    refine r_aload_n (pc := 13) C 0 dX1_leave_13 rfl ?_
    refine r_get (pc := 14) (k := 27) (j := 1) (Cn := RX1) (T := TX1) (N := 2) C (by decide) (ce27 _) rfl iaX1 (by decide) aw912 rfl rfl dX1_leave_14 ?_
    refine r_iload_n (pc := 17) C 1 dX1_leave_17 rfl ?_
    obtain ⟨g2, h⟩ := h
    refine q_iast (pc := 18) (k := 28) (n := 16) (j := (Int32.toNatClampNeg (M 27 1))) C (by decide) (ce28) g2 rfl dX1_leave_18 ?_
    refine r_topM (fun M3 eM3 => ?_)
    replace h := h M3 eM3
    refine r_aload_n (pc := 19) C 0 dX1_leave_19 rfl ?_
    refine r_dup (pc := 20) C dX1_leave_20 rfl ?_
    refine r_get (pc := 21) (k := 27) (j := 1) (Cn := RX1) (T := TX1) (N := 2) C (by decide) (ce27 _) rfl iaX1 (by decide) aw912 rfl rfl dX1_leave_21 ?_
    refine r_iconst (pc := 24) (v := 1) C dX1_leave_24 (by decide) ?_
    refine r_iadd (pc := 25) C dX1_leave_25 ?_
    refine r_topi (fun v4 ev4 => ?_)
    replace h := h v4 ev4
    refine r_put (pc := 26) (k := 27) (j := 1) (Cn := RX1) (T := TX1) (N := 2) (host := "") C (by decide) (ce27 _) rfl iaX1 (by decide) (ce27 _) tyX1_ok nmX1 aw912 rfl rfl (tyX1_ok 1 (by decide)) (Nat.le_of_ble_eq_true rfl) dX1_leave_26 ?_
    refine r_topM (fun M5 eM5 => ?_)
    replace h := h M5 eM5
    exact r_vret (pc := 29) C dX1_leave_29 h
theorem yd_X2_hold : yX2_hold.cls ≠ "java/lang/invoke/MethodHandle" ∧ yX2_hold.cls ≠ "java/lang/invoke/VarHandle" ∧ (parseMethodDescriptor yX2_hold.desc).map (fun d => d.parameters.length) = some 3 := by decide +kernel
def wJ_X2_hold_43 (k1 : Nat) (Q : Mem → Prop) (R11 : Mem → Int32 → Int32 → Int32 → Prop) (M : Mem) (x2 : Int32) (x3 : Int32) (x4 : Int32) (s1 : Int32) (s2 : Int32) : Prop :=
  vp_in s1 6 ∧ (∀ M2 : Mem, M2 = ms M 30 (Int32.toNatClampNeg s1) s2 → (((¬ x4 = x2) → (w_X6_favourOf k1 M2 x4 x2 (fun r5 M4 => w_J6_compare_7cf53  M4 r5 0 (fun r7 M6 => vp_in x4 6 ∧ (∀ M9 : Mem, M9 = ms M6 31 (Int32.toNatClampNeg x4) r7 → (∀ v10 : Int32, v10 = x4 + 1 → (R11 M9 x2 x3 v10))))))) ∧ ((x4 = x2) → (vp_in x4 6 ∧ (∀ M12 : Mem, M12 = ms M2 31 (Int32.toNatClampNeg x4) 0 → (∀ v13 : Int32, v13 = x4 + 1 → (R11 M12 x2 x3 v13)))))))
def wB_X2_hold_11 (k1 : Nat) (Q : Mem → Prop)  (R11 : Mem → Int32 → Int32 → Int32 → Prop) (M : Mem) (x2 : Int32) (x3 : Int32) (x4 : Int32) : Prop :=
  (((M 29 2) ≤ x4) → (Q M)) ∧ ((¬ (M 29 2) ≤ x4) → (((¬ x4 = x2) → (w_X6_weightOf k1 M x4 x3 (fun r4 M3 => wJ_X2_hold_43 k1 Q R11 M3 x2 x3 x4 x4 r4))) ∧ ((x4 = x2) → (wJ_X2_hold_43 k1 Q R11 M x2 x3 x4 x4 0))))
def wL_X2_hold_11 (k1 : Nat) (Q : Mem → Prop)  : Nat → Mem → Int32 → Int32 → Int32 → Prop
  | 0 => fun _ _ _ _ => False
  | n + 1 => fun M x2 x3 x4 => wB_X2_hold_11 k1 Q  (wL_X2_hold_11 k1 Q  n) M x2 x3 x4
theorem wL_X2_hold_11_s {k1 : Nat} {Q : Mem → Prop}  {n : Nat} {M : Mem} {x2 : Int32} {x3 : Int32} {x4 : Int32} (h : wL_X2_hold_11 k1 Q  (n + 1) M x2 x3 x4) : wB_X2_hold_11 k1 Q  (wL_X2_hold_11 k1 Q  n) M x2 x3 x4 := h
def w_X2_hold (k1 : Nat) (M : Mem) (x2 : Int32) (x3 : Int32) (Q : Mem → Prop) : Prop :=
  ∀ v1 : Int32, v1 = (M k1 3) → (∀ M2 : Mem, M2 = ms M 29 2 v1 → (∃ n3 : Nat, wL_X2_hold_11 k1 Q  n3 M2 x2 x3 0))
abbrev rm_X2_hold : Room := { frames := 9, cells := 0, slots := 0, locals := 180 }
set_option maxHeartbeats 4000000 in
set_option maxRecDepth 100000 in
theorem c_X2_hold (X : Cx) (k1 : Nat) (h1 : kd k1 = 6) (M : Mem) (x2 : Int32) (x3 : Int32) (Q : Mem → Prop) (h : w_X2_hold k1 M x2 x3 Q) : Ct yX2_hold cX2_hold 5 none rm_X2_hold X M [.ref (ad X 29), .ref (ad X k1), .int x2, .int x3] (Qv X Q) := by
  refine ct_of (own := RX2) (lv := [(0, .ref (ad X 29)), (1, .ref (ad X k1)), (2, .int x2), (3, .int x3)]) rfl (by decide) (Nat.le_of_ble_eq_true rfl) rfl ?_
  intro K C
  have hJ43 : ∀ (R11 : Mem → Int32 → Int32 → Int32 → Prop) (hR11 : ∀ (M : Mem) (x2 : Int32) (x3 : Int32) (x4 : Int32), R11 M x2 x3 x4 → WX K X 5 (Qv X Q) M 11 [(0, .ref (ad X 29)), (1, .ref (ad X k1)), (2, .int x2), (3, .int x3), (4, .int x4)] []) (M : Mem) (x2 : Int32) (x3 : Int32) (x4 : Int32) (s1 : Int32) (s2 : Int32), wJ_X2_hold_43 k1 Q R11 M x2 x3 x4 s1 s2 → WX K X 5 (Qv X Q) M 43 [(0, .ref (ad X 29)), (1, .ref (ad X k1)), (2, .int x2), (3, .int x3), (4, .int x4)] [.int s2, .int s1, .ref (ad X 30)] := by
    intro R11 hR11 M x2 x3 x4 s1 s2 h
    unfold wJ_X2_hold_43 at h
    obtain ⟨g1, h⟩ := h
    refine q_iast (pc := 43) (k := 30) (n := 6) (j := (Int32.toNatClampNeg s1)) C (by decide) (ce30) g1 rfl dX2_hold_43 ?_
    refine r_topM (fun M2 eM2 => ?_)
    replace h := h M2 eM2
    refine r_aload_n (pc := 44) C 0 dX2_hold_44 rfl ?_
    refine r_get (pc := 45) (k := 29) (j := 1) (Cn := RX2) (T := TX2) (N := 3) C (by decide) (ce29 _) rfl iaX2 (by decide) aw80 rfl rfl dX2_hold_45 ?_
    refine r_iload (pc := 48) C 4 dX2_hold_48 rfl ?_
    refine r_iload (pc := 50) C 4 dX2_hold_50 rfl ?_
    refine r_iload_n (pc := 52) C 2 dX2_hold_52 rfl ?_
    refine r_icmp_ne (pc := 53) (tgt := 60) C dX2_hold_53 (by decide) (fun c3 => ?_) (fun c3 => ?_)
    · have h := h.1 c3
      refine r_aload_n (pc := 60) C 1 dX2_hold_60 rfl ?_
      refine r_iload (pc := 61) C 4 dX2_hold_61 rfl ?_
      refine r_iload_n (pc := 63) C 2 dX2_hold_63 rfl ?_
      have hM := c_X6_favourOf X k1 h1 M2 x4 x2 _ h
      refine q_s0 (s1 := List.reverse [.int x4, .int x2] ++ .ref (ad X k1) :: [.int x4, .ref (ad X 31)]) rfl ?_
      refine r_callVNi (pc := 64) (k := k1) (As := [.int x4, .int x2]) (st := [.int x4, .ref (ad X 31)]) C 2 (bdT h1) (ceT h1 _) rfl aw439 aw440 hM nm29 aw441 aw28 yd_X6_favourOf ⟨rfl, rfl⟩ ⟨Nat.le_of_ble_eq_true rfl, Nat.le_of_ble_eq_true rfl⟩ rfl (Nat.le_of_ble_eq_true rfl) dX2_hold_64 (fun r5 M4 h => ?_)
      refine r_iconst (pc := 67) (v := 0) C dX2_hold_67 (by decide) ?_
      have hM := c_J6_compare_7cf53 X  M4 r5 0 _ h
      refine q_s0 (s1 := List.reverse [.int r5, .int 0] ++ [.int x4, .ref (ad X 31)]) rfl ?_
      refine r_callSi (pc := 68) (As := [.int r5, .int 0]) (st := [.int x4, .ref (ad X 31)]) C 2 hM aw450 aw451 aw453 aw452 yd_J6_compare_7cf53 ⟨rfl, rfl⟩ ⟨Nat.le_of_ble_eq_true rfl, Nat.le_of_ble_eq_true rfl⟩ rfl (Nat.le_of_ble_eq_true rfl) dX2_hold_68 (fun r7 M6 h => ?_)
      obtain ⟨g8, h⟩ := h
      refine q_iast (pc := 71) (k := 31) (n := 6) (j := (Int32.toNatClampNeg x4)) C (by decide) (ce31) g8 rfl dX2_hold_71 ?_
      refine r_topM (fun M9 eM9 => ?_)
      replace h := h M9 eM9
      obtain ⟨v10, ev10⟩ : ∃ z : Int32, z = x4 + 1 := ⟨_, rfl⟩
      replace h := h v10 ev10
      refine r_iinc (pc := 72) (v := v10) (lv2 := [(4, .int v10), (0, .ref (ad X 29)), (1, .ref (ad X k1)), (2, .int x2), (3, .int x3)]) C 4 dX2_hold_72 rfl (by rw [ev10]; rfl) (by decide) rfl ?_
      refine r_goto (pc := 75) (tgt := 11) C dX2_hold_75 (by decide) ?_
      refine r_sub (lv2 := [(0, .ref (ad X 29)), (1, .ref (ad X k1)), (2, .int x2), (3, .int x3), (4, .int v10)]) [1, 2, 3, 4, 0] rfl ?_
      exact hR11 _ _ _ _ h
    · have h := h.2 c3
      refine r_iconst (pc := 56) (v := 0) C dX2_hold_56 (by decide) ?_
      refine r_goto (pc := 57) (tgt := 71) C dX2_hold_57 (by decide) ?_
      obtain ⟨g11, h⟩ := h
      refine q_iast (pc := 71) (k := 31) (n := 6) (j := (Int32.toNatClampNeg x4)) C (by decide) (ce31) g11 rfl dX2_hold_71 ?_
      refine r_topM (fun M12 eM12 => ?_)
      replace h := h M12 eM12
      obtain ⟨v13, ev13⟩ : ∃ z : Int32, z = x4 + 1 := ⟨_, rfl⟩
      replace h := h v13 ev13
      refine r_iinc (pc := 72) (v := v13) (lv2 := [(4, .int v13), (0, .ref (ad X 29)), (1, .ref (ad X k1)), (2, .int x2), (3, .int x3)]) C 4 dX2_hold_72 rfl (by rw [ev13]; rfl) (by decide) rfl ?_
      refine r_goto (pc := 75) (tgt := 11) C dX2_hold_75 (by decide) ?_
      refine r_sub (lv2 := [(0, .ref (ad X 29)), (1, .ref (ad X k1)), (2, .int x2), (3, .int x3), (4, .int v13)]) [1, 2, 3, 4, 0] rfl ?_
      exact hR11 _ _ _ _ h
  have hL11 : ∀  (n : Nat) (M : Mem) (x2 : Int32) (x3 : Int32) (x4 : Int32), wL_X2_hold_11 k1 Q  n M x2 x3 x4 → WX K X 5 (Qv X Q) M 11 [(0, .ref (ad X 29)), (1, .ref (ad X k1)), (2, .int x2), (3, .int x3), (4, .int x4)] [] := by
    intro  n
    induction n with
    | zero => intro M x2 x3 x4 h; exact absurd h id
    | succ n ih =>
      intro M x2 x3 x4 h
      replace h := wL_X2_hold_11_s h
      unfold wB_X2_hold_11 at h
      refine r_iload (pc := 11) C 4 dX2_hold_11 rfl ?_
      refine r_aload_n (pc := 13) C 0 dX2_hold_13 rfl ?_
      refine r_get (pc := 14) (k := 29) (j := 2) (Cn := RX2) (T := TX2) (N := 3) C (by decide) (ce29 _) rfl iaX2 (by decide) aw431 rfl rfl dX2_hold_14 ?_
      refine r_icmp_ge (pc := 17) (tgt := 78) C dX2_hold_17 (by decide) (fun c1 => ?_) (fun c1 => ?_)
      · have h := h.1 c1
        exact r_vret (pc := 78) C dX2_hold_78 h
      · have h := h.2 c1
        refine r_aload_n (pc := 20) C 0 dX2_hold_20 rfl ?_
        refine r_get (pc := 21) (k := 29) (j := 0) (Cn := RX2) (T := TX2) (N := 3) C (by decide) (ce29 _) rfl iaX2 (by decide) aw79 rfl rfl dX2_hold_21 ?_
        refine r_iload (pc := 24) C 4 dX2_hold_24 rfl ?_
        refine r_iload (pc := 26) C 4 dX2_hold_26 rfl ?_
        refine r_iload_n (pc := 28) C 2 dX2_hold_28 rfl ?_
        refine r_icmp_ne (pc := 29) (tgt := 36) C dX2_hold_29 (by decide) (fun c2 => ?_) (fun c2 => ?_)
        · have h := h.1 c2
          refine r_aload_n (pc := 36) C 1 dX2_hold_36 rfl ?_
          refine r_iload (pc := 37) C 4 dX2_hold_37 rfl ?_
          refine r_iload_n (pc := 39) C 3 dX2_hold_39 rfl ?_
          have hM := c_X6_weightOf X k1 h1 M x4 x3 _ h
          refine q_s0 (s1 := List.reverse [.int x4, .int x3] ++ .ref (ad X k1) :: [.int x4, .ref (ad X 30)]) rfl ?_
          refine r_callVNi (pc := 40) (k := k1) (As := [.int x4, .int x3]) (st := [.int x4, .ref (ad X 30)]) C 2 (bdT h1) (ceT h1 _) rfl aw432 aw433 hM nm28 aw434 aw28 yd_X6_weightOf ⟨rfl, rfl⟩ ⟨Nat.le_of_ble_eq_true rfl, Nat.le_of_ble_eq_true rfl⟩ rfl (Nat.le_of_ble_eq_true rfl) dX2_hold_40 (fun r4 M3 h => ?_)
          refine r_sub (lv2 := [(0, .ref (ad X 29)), (1, .ref (ad X k1)), (2, .int x2), (3, .int x3), (4, .int x4)]) [0, 1, 2, 3, 4] rfl ?_
          exact hJ43 _ ih _ _ _ _ _ _ h
        · have h := h.2 c2
          refine r_iconst (pc := 32) (v := 0) C dX2_hold_32 (by decide) ?_
          refine r_goto (pc := 33) (tgt := 43) C dX2_hold_33 (by decide) ?_
          refine r_sub (lv2 := [(0, .ref (ad X 29)), (1, .ref (ad X k1)), (2, .int x2), (3, .int x3), (4, .int x4)]) [0, 1, 2, 3, 4] rfl ?_
          exact hJ43 _ ih _ _ _ _ _ _ h
  unfold w_X2_hold at h
  refine r_aload_n (pc := 0) C 0 dX2_hold_0 rfl ?_
  refine r_aload_n (pc := 1) C 1 dX2_hold_1 rfl ?_
  refine r_getN (pc := 2) (k := k1) (j := 3) (Cn := RX6) (T := TX6) (N := 16) C (bdT h1) (ceT h1 _) rfl iaX6 (by decide) nf12 rfl rfl dX2_hold_2 ?_
  refine r_topi (fun v1 ev1 => ?_)
  replace h := h v1 ev1
  refine r_put (pc := 5) (k := 29) (j := 2) (Cn := RX2) (T := TX2) (N := 3) (host := "") C (by decide) (ce29 _) rfl iaX2 (by decide) (ce29 _) tyX2_ok nmX2 aw431 rfl rfl (tyX2_ok 2 (by decide)) (Nat.le_of_ble_eq_true rfl) dX2_hold_5 ?_
  refine r_topM (fun M2 eM2 => ?_)
  replace h := h M2 eM2
  refine r_iconst (pc := 8) (v := 0) C dX2_hold_8 (by decide) ?_
  refine r_istore (pc := 9) (lv2 := [(4, .int 0), (0, .ref (ad X 29)), (1, .ref (ad X k1)), (2, .int x2), (3, .int x3)]) C dX2_hold_9 (by decide) rfl ?_
  obtain ⟨n3, h⟩ := h
  refine r_sub (lv2 := [(0, .ref (ad X 29)), (1, .ref (ad X k1)), (2, .int x2), (3, .int x3), (4, .int 0)]) [1, 2, 3, 4, 0] rfl ?_
  exact hL11  _ _ _ _ _ h
theorem yd_X2_weightsOf : yX2_weightsOf.cls ≠ "java/lang/invoke/MethodHandle" ∧ yX2_weightsOf.cls ≠ "java/lang/invoke/VarHandle" ∧ (parseMethodDescriptor yX2_weightsOf.desc).map (fun d => d.parameters.length) = some 1 := by decide +kernel
def wB_X2_weightsOf_4  (Q : Int32 → Mem → Prop)  (R4 : Mem → Int32 → Int32 → Int32 → Prop) (M : Mem) (x1 : Int32) (x2 : Int32) (x3 : Int32) : Prop :=
  (((M 29 2) ≤ x3) → (Q x2 M)) ∧ ((¬ (M 29 2) ≤ x3) → (vp_in x3 6 ∧ (((¬ (M 31 (Int32.toNatClampNeg x3)) = x1) → (∀ v4 : Int32, v4 = (x2 + 0) → (∀ v5 : Int32, v5 = x3 + 1 → (R4 M x1 v4 v5)))) ∧ (((M 31 (Int32.toNatClampNeg x3)) = x1) → (vp_in x3 6 ∧ (∀ v7 : Int32, v7 = (x2 + (M 30 (Int32.toNatClampNeg x3))) → (∀ v8 : Int32, v8 = x3 + 1 → (R4 M x1 v7 v8))))))))
def wL_X2_weightsOf_4  (Q : Int32 → Mem → Prop)  : Nat → Mem → Int32 → Int32 → Int32 → Prop
  | 0 => fun _ _ _ _ => False
  | n + 1 => fun M x1 x2 x3 => wB_X2_weightsOf_4  Q  (wL_X2_weightsOf_4  Q  n) M x1 x2 x3
theorem wL_X2_weightsOf_4_s  {Q : Int32 → Mem → Prop}  {n : Nat} {M : Mem} {x1 : Int32} {x2 : Int32} {x3 : Int32} (h : wL_X2_weightsOf_4  Q  (n + 1) M x1 x2 x3) : wB_X2_weightsOf_4  Q  (wL_X2_weightsOf_4  Q  n) M x1 x2 x3 := h
def w_X2_weightsOf  (M : Mem) (x1 : Int32) (Q : Int32 → Mem → Prop) : Prop :=
  ∃ n1 : Nat, wL_X2_weightsOf_4  Q  n1 M x1 0 0
abbrev rm_X2_weightsOf : Room := { frames := 3, cells := 0, slots := 0, locals := 60 }
set_option maxHeartbeats 4000000 in
set_option maxRecDepth 100000 in
theorem c_X2_weightsOf (X : Cx)  (M : Mem) (x1 : Int32) (Q : Int32 → Mem → Prop) (h : w_X2_weightsOf  M x1 Q) : Ct yX2_weightsOf cX2_weightsOf 4 (some .int) rm_X2_weightsOf X M [.ref (ad X 29), .int x1] (Qi X Q) := by
  refine ct_of (own := RX2) (lv := [(0, .ref (ad X 29)), (1, .int x1)]) rfl (by decide) (Nat.le_of_ble_eq_true rfl) rfl ?_
  intro K C
  have hL4 : ∀  (n : Nat) (M : Mem) (x1 : Int32) (x2 : Int32) (x3 : Int32), wL_X2_weightsOf_4  Q  n M x1 x2 x3 → WX K X 4 (Qi X Q) M 4 [(0, .ref (ad X 29)), (1, .int x1), (2, .int x2), (3, .int x3)] [] := by
    intro  n
    induction n with
    | zero => intro M x1 x2 x3 h; exact absurd h id
    | succ n ih =>
      intro M x1 x2 x3 h
      replace h := wL_X2_weightsOf_4_s h
      unfold wB_X2_weightsOf_4 at h
      refine r_iload_n (pc := 4) C 3 dX2_weightsOf_4 rfl ?_
      refine r_aload_n (pc := 5) C 0 dX2_weightsOf_5 rfl ?_
      refine r_get (pc := 6) (k := 29) (j := 2) (Cn := RX2) (T := TX2) (N := 3) C (by decide) (ce29 _) rfl iaX2 (by decide) aw431 rfl rfl dX2_weightsOf_6 ?_
      refine r_icmp_ge (pc := 9) (tgt := 41) C dX2_weightsOf_9 (by decide) (fun c1 => ?_) (fun c1 => ?_)
      · have h := h.1 c1
        refine r_iload_n (pc := 41) C 2 dX2_weightsOf_41 rfl ?_
        exact r_iret (pc := 42) C dX2_weightsOf_42 h
      · have h := h.2 c1
        refine r_iload_n (pc := 12) C 2 dX2_weightsOf_12 rfl ?_
        refine r_aload_n (pc := 13) C 0 dX2_weightsOf_13 rfl ?_
        refine r_get (pc := 14) (k := 29) (j := 1) (Cn := RX2) (T := TX2) (N := 3) C (by decide) (ce29 _) rfl iaX2 (by decide) aw80 rfl rfl dX2_weightsOf_14 ?_
        refine r_iload_n (pc := 17) C 3 dX2_weightsOf_17 rfl ?_
        obtain ⟨g2, h⟩ := h
        refine q_iald (pc := 18) (k := 31) (n := 6) (j := (Int32.toNatClampNeg x3)) C (by decide) (ce31 _) g2 rfl dX2_weightsOf_18 ?_
        refine r_iload_n (pc := 19) C 1 dX2_weightsOf_19 rfl ?_
        refine r_icmp_ne (pc := 20) (tgt := 32) C dX2_weightsOf_20 (by decide) (fun c3 => ?_) (fun c3 => ?_)
        · have h := h.1 c3
          refine r_iconst (pc := 32) (v := 0) C dX2_weightsOf_32 (by decide) ?_
          refine r_iadd (pc := 33) C dX2_weightsOf_33 ?_
          refine r_topi (fun v4 ev4 => ?_)
          replace h := h v4 ev4
          refine r_istore_n (pc := 34) (lv2 := [(2, .int v4), (0, .ref (ad X 29)), (1, .int x1), (3, .int x3)]) C dX2_weightsOf_34 (by decide) rfl ?_
          obtain ⟨v5, ev5⟩ : ∃ z : Int32, z = x3 + 1 := ⟨_, rfl⟩
          replace h := h v5 ev5
          refine r_iinc (pc := 35) (v := v5) (lv2 := [(3, .int v5), (2, .int v4), (0, .ref (ad X 29)), (1, .int x1)]) C 3 dX2_weightsOf_35 rfl (by rw [ev5]; rfl) (by decide) rfl ?_
          refine r_goto (pc := 38) (tgt := 4) C dX2_weightsOf_38 (by decide) ?_
          refine r_sub (lv2 := [(0, .ref (ad X 29)), (1, .int x1), (2, .int v4), (3, .int v5)]) [2, 3, 1, 0] rfl ?_
          exact ih _ _ _ _ h
        · have h := h.2 c3
          refine r_aload_n (pc := 23) C 0 dX2_weightsOf_23 rfl ?_
          refine r_get (pc := 24) (k := 29) (j := 0) (Cn := RX2) (T := TX2) (N := 3) C (by decide) (ce29 _) rfl iaX2 (by decide) aw79 rfl rfl dX2_weightsOf_24 ?_
          refine r_iload_n (pc := 27) C 3 dX2_weightsOf_27 rfl ?_
          obtain ⟨g6, h⟩ := h
          refine q_iald (pc := 28) (k := 30) (n := 6) (j := (Int32.toNatClampNeg x3)) C (by decide) (ce30 _) g6 rfl dX2_weightsOf_28 ?_
          refine r_goto (pc := 29) (tgt := 33) C dX2_weightsOf_29 (by decide) ?_
          refine r_iadd (pc := 33) C dX2_weightsOf_33 ?_
          refine r_topi (fun v7 ev7 => ?_)
          replace h := h v7 ev7
          refine r_istore_n (pc := 34) (lv2 := [(2, .int v7), (0, .ref (ad X 29)), (1, .int x1), (3, .int x3)]) C dX2_weightsOf_34 (by decide) rfl ?_
          obtain ⟨v8, ev8⟩ : ∃ z : Int32, z = x3 + 1 := ⟨_, rfl⟩
          replace h := h v8 ev8
          refine r_iinc (pc := 35) (v := v8) (lv2 := [(3, .int v8), (2, .int v7), (0, .ref (ad X 29)), (1, .int x1)]) C 3 dX2_weightsOf_35 rfl (by rw [ev8]; rfl) (by decide) rfl ?_
          refine r_goto (pc := 38) (tgt := 4) C dX2_weightsOf_38 (by decide) ?_
          refine r_sub (lv2 := [(0, .ref (ad X 29)), (1, .int x1), (2, .int v7), (3, .int v8)]) [2, 3, 1, 0] rfl ?_
          exact ih _ _ _ _ h
  unfold w_X2_weightsOf at h
  refine r_iconst (pc := 0) (v := 0) C dX2_weightsOf_0 (by decide) ?_
  refine r_istore_n (pc := 1) (lv2 := [(2, .int 0), (0, .ref (ad X 29)), (1, .int x1)]) C dX2_weightsOf_1 (by decide) rfl ?_
  refine r_iconst (pc := 2) (v := 0) C dX2_weightsOf_2 (by decide) ?_
  refine r_istore_n (pc := 3) (lv2 := [(3, .int 0), (2, .int 0), (0, .ref (ad X 29)), (1, .int x1)]) C dX2_weightsOf_3 (by decide) rfl ?_
  obtain ⟨n1, h⟩ := h
  refine r_sub (lv2 := [(0, .ref (ad X 29)), (1, .int x1), (2, .int 0), (3, .int 0)]) [2, 3, 1, 0] rfl ?_
  exact hL4  _ _ _ _ _ h
theorem yd_X2_margin : yX2_margin.cls ≠ "java/lang/invoke/MethodHandle" ∧ yX2_margin.cls ≠ "java/lang/invoke/VarHandle" ∧ (parseMethodDescriptor yX2_margin.desc).map (fun d => d.parameters.length) = some 0 := by decide +kernel
def w_X2_margin  (M : Mem)  (Q : Int32 → Mem → Prop) : Prop :=
  w_X2_weightsOf  M 1 (fun r2 M1 => w_X2_weightsOf  M1 (-1) (fun r4 M3 => Q (r2 - r4) M3))
abbrev rm_X2_margin : Room := { frames := 6, cells := 0, slots := 0, locals := 120 }
set_option maxHeartbeats 4000000 in
set_option maxRecDepth 100000 in
theorem c_X2_margin (X : Cx)  (M : Mem)  (Q : Int32 → Mem → Prop) (h : w_X2_margin  M  Q) : Ct yX2_margin cX2_margin 1 (some .int) rm_X2_margin X M [.ref (ad X 29)] (Qi X Q) := by
  refine ct_of (own := RX2) (lv := [(0, .ref (ad X 29))]) rfl (by decide) (Nat.le_of_ble_eq_true rfl) rfl ?_
  intro K C
  unfold w_X2_margin at h
  refine r_aload_n (pc := 0) C 0 dX2_margin_0 rfl ?_
  refine r_iconst (pc := 1) (v := 1) C dX2_margin_1 (by decide) ?_
  have hM := c_X2_weightsOf X  M 1 _ h
  refine q_s0 (s1 := List.reverse [.int 1] ++ .ref (ad X 29) :: []) rfl ?_
  refine r_callVi (pc := 2) (k := 29) (As := [.int 1]) (st := []) C 1 (by decide) (ce29 _) rfl aw617 aw618 hM aw726 aw619 aw34 yd_X2_weightsOf ⟨rfl, rfl⟩ ⟨Nat.le_of_ble_eq_true rfl, Nat.le_of_ble_eq_true rfl⟩ rfl (Nat.le_of_ble_eq_true rfl) dX2_margin_2 (fun r2 M1 h => ?_)
  refine r_aload_n (pc := 5) C 0 dX2_margin_5 rfl ?_
  refine r_iconst (pc := 6) (v := (-1)) C dX2_margin_6 (by decide) ?_
  have hM := c_X2_weightsOf X  M1 (-1) _ h
  refine q_s0 (s1 := List.reverse [.int (-1)] ++ .ref (ad X 29) :: [.int r2]) rfl ?_
  refine r_callVi (pc := 7) (k := 29) (As := [.int (-1)]) (st := [.int r2]) C 1 (by decide) (ce29 _) rfl aw617 aw618 hM aw726 aw619 aw34 yd_X2_weightsOf ⟨rfl, rfl⟩ ⟨Nat.le_of_ble_eq_true rfl, Nat.le_of_ble_eq_true rfl⟩ rfl (Nat.le_of_ble_eq_true rfl) dX2_margin_7 (fun r4 M3 h => ?_)
  refine r_isub (pc := 10) C dX2_margin_10 ?_
  exact r_iret (pc := 11) C dX2_margin_11 h
theorem yd_X2_opensAwake : yX2_opensAwake.cls ≠ "java/lang/invoke/MethodHandle" ∧ yX2_opensAwake.cls ≠ "java/lang/invoke/VarHandle" ∧ (parseMethodDescriptor yX2_opensAwake.desc).map (fun d => d.parameters.length) = some 1 := by decide +kernel
def wB_X2_opensAwake_7  (Q : Int32 → Mem → Prop)  (R7 : Mem → Int32 → Int32 → Int32 → Int32 → Prop) (M : Mem) (x1 : Int32) (x2 : Int32) (x3 : Int32) (x4 : Int32) : Prop :=
  (((M 29 2) ≤ x4) → (((0 < x2) → (Q 1 M)) ∧ ((¬ 0 < x2) → (((¬ x3 = 0) → (Q 0 M)) ∧ ((x3 = 0) → (Q 1 M)))))) ∧ ((¬ (M 29 2) ≤ x4) → (((((x1 >>> (x4 &&& 31)) &&& 1) = 0) → (∀ v5 : Int32, v5 = x4 + 1 → (R7 M x1 x2 x3 v5))) ∧ ((¬ ((x1 >>> (x4 &&& 31)) &&& 1) = 0) → (vp_in x4 6 ∧ (vp_in x4 6 ∧ (∀ v8 : Int32, v8 = (x2 + ((M 31 (Int32.toNatClampNeg x4)) * (M 30 (Int32.toNatClampNeg x4)))) → (vp_in x4 6 ∧ (∀ v10 : Int32, v10 = (x3 + (M 30 (Int32.toNatClampNeg x4))) → (∀ v11 : Int32, v11 = x4 + 1 → (R7 M x1 v8 v10 v11))))))))))
def wL_X2_opensAwake_7  (Q : Int32 → Mem → Prop)  : Nat → Mem → Int32 → Int32 → Int32 → Int32 → Prop
  | 0 => fun _ _ _ _ _ => False
  | n + 1 => fun M x1 x2 x3 x4 => wB_X2_opensAwake_7  Q  (wL_X2_opensAwake_7  Q  n) M x1 x2 x3 x4
theorem wL_X2_opensAwake_7_s  {Q : Int32 → Mem → Prop}  {n : Nat} {M : Mem} {x1 : Int32} {x2 : Int32} {x3 : Int32} {x4 : Int32} (h : wL_X2_opensAwake_7  Q  (n + 1) M x1 x2 x3 x4) : wB_X2_opensAwake_7  Q  (wL_X2_opensAwake_7  Q  n) M x1 x2 x3 x4 := h
def w_X2_opensAwake  (M : Mem) (x1 : Int32) (Q : Int32 → Mem → Prop) : Prop :=
  ∃ n1 : Nat, wL_X2_opensAwake_7  Q  n1 M x1 0 0 0
abbrev rm_X2_opensAwake : Room := { frames := 3, cells := 0, slots := 0, locals := 60 }
set_option maxHeartbeats 4000000 in
set_option maxRecDepth 100000 in
theorem c_X2_opensAwake (X : Cx)  (M : Mem) (x1 : Int32) (Q : Int32 → Mem → Prop) (h : w_X2_opensAwake  M x1 Q) : Ct yX2_opensAwake cX2_opensAwake 5 (some .boolean) rm_X2_opensAwake X M [.ref (ad X 29), .int x1] (Qi X Q) := by
  refine ct_of (own := RX2) (lv := [(0, .ref (ad X 29)), (1, .int x1)]) rfl (by decide) (Nat.le_of_ble_eq_true rfl) rfl ?_
  intro K C
  have hL7 : ∀  (n : Nat) (M : Mem) (x1 : Int32) (x2 : Int32) (x3 : Int32) (x4 : Int32), wL_X2_opensAwake_7  Q  n M x1 x2 x3 x4 → WX K X 5 (Qi X Q) M 7 [(0, .ref (ad X 29)), (1, .int x1), (2, .int x2), (3, .int x3), (4, .int x4)] [] := by
    intro  n
    induction n with
    | zero => intro M x1 x2 x3 x4 h; exact absurd h id
    | succ n ih =>
      intro M x1 x2 x3 x4 h
      replace h := wL_X2_opensAwake_7_s h
      unfold wB_X2_opensAwake_7 at h
      refine r_iload (pc := 7) C 4 dX2_opensAwake_7 rfl ?_
      refine r_aload_n (pc := 9) C 0 dX2_opensAwake_9 rfl ?_
      refine r_get (pc := 10) (k := 29) (j := 2) (Cn := RX2) (T := TX2) (N := 3) C (by decide) (ce29 _) rfl iaX2 (by decide) aw431 rfl rfl dX2_opensAwake_10 ?_
      refine r_icmp_ge (pc := 13) (tgt := 59) C dX2_opensAwake_13 (by decide) (fun c1 => ?_) (fun c1 => ?_)
      · have h := h.1 c1
        refine r_iload_n (pc := 59) C 2 dX2_opensAwake_59 rfl ?_
        refine r_if_gt (pc := 60) (tgt := 67) C dX2_opensAwake_60 (by decide) (fun c2 => ?_) (fun c2 => ?_)
        · have h := h.1 c2
          refine r_iconst (pc := 67) (v := 1) C dX2_opensAwake_67 (by decide) ?_
          refine r_goto (pc := 68) (tgt := 72) C dX2_opensAwake_68 (by decide) ?_
          exact r_zret (pc := 72) C dX2_opensAwake_72 (Or.inr rfl) h
        · have h := h.2 c2
          refine r_iload_n (pc := 63) C 3 dX2_opensAwake_63 rfl ?_
          refine r_if_ne (pc := 64) (tgt := 71) C dX2_opensAwake_64 (by decide) (fun c3 => ?_) (fun c3 => ?_)
          · have h := h.1 c3
            refine r_iconst (pc := 71) (v := 0) C dX2_opensAwake_71 (by decide) ?_
            exact r_zret (pc := 72) C dX2_opensAwake_72 (Or.inl rfl) h
          · have h := h.2 c3
            refine r_iconst (pc := 67) (v := 1) C dX2_opensAwake_67 (by decide) ?_
            refine r_goto (pc := 68) (tgt := 72) C dX2_opensAwake_68 (by decide) ?_
            exact r_zret (pc := 72) C dX2_opensAwake_72 (Or.inr rfl) h
      · have h := h.2 c1
        refine r_iload_n (pc := 16) C 1 dX2_opensAwake_16 rfl ?_
        refine r_iload (pc := 17) C 4 dX2_opensAwake_17 rfl ?_
        refine r_ishr (pc := 19) C dX2_opensAwake_19 ?_
        refine r_iconst (pc := 20) (v := 1) C dX2_opensAwake_20 (by decide) ?_
        refine r_iand (pc := 21) C dX2_opensAwake_21 ?_
        refine r_if_eq (pc := 22) (tgt := 53) C dX2_opensAwake_22 (by decide) (fun c4 => ?_) (fun c4 => ?_)
        · have h := h.1 c4
          obtain ⟨v5, ev5⟩ : ∃ z : Int32, z = x4 + 1 := ⟨_, rfl⟩
          replace h := h v5 ev5
          refine r_iinc (pc := 53) (v := v5) (lv2 := [(4, .int v5), (0, .ref (ad X 29)), (1, .int x1), (2, .int x2), (3, .int x3)]) C 4 dX2_opensAwake_53 rfl (by rw [ev5]; rfl) (by decide) rfl ?_
          refine r_goto (pc := 56) (tgt := 7) C dX2_opensAwake_56 (by decide) ?_
          refine r_sub (lv2 := [(0, .ref (ad X 29)), (1, .int x1), (2, .int x2), (3, .int x3), (4, .int v5)]) [1, 2, 3, 4, 0] rfl ?_
          exact ih _ _ _ _ _ h
        · have h := h.2 c4
          refine r_iload_n (pc := 25) C 2 dX2_opensAwake_25 rfl ?_
          refine r_aload_n (pc := 26) C 0 dX2_opensAwake_26 rfl ?_
          refine r_get (pc := 27) (k := 29) (j := 1) (Cn := RX2) (T := TX2) (N := 3) C (by decide) (ce29 _) rfl iaX2 (by decide) aw80 rfl rfl dX2_opensAwake_27 ?_
          refine r_iload (pc := 30) C 4 dX2_opensAwake_30 rfl ?_
          obtain ⟨g6, h⟩ := h
          refine q_iald (pc := 32) (k := 31) (n := 6) (j := (Int32.toNatClampNeg x4)) C (by decide) (ce31 _) g6 rfl dX2_opensAwake_32 ?_
          refine r_aload_n (pc := 33) C 0 dX2_opensAwake_33 rfl ?_
          refine r_get (pc := 34) (k := 29) (j := 0) (Cn := RX2) (T := TX2) (N := 3) C (by decide) (ce29 _) rfl iaX2 (by decide) aw79 rfl rfl dX2_opensAwake_34 ?_
          refine r_iload (pc := 37) C 4 dX2_opensAwake_37 rfl ?_
          obtain ⟨g7, h⟩ := h
          refine q_iald (pc := 39) (k := 30) (n := 6) (j := (Int32.toNatClampNeg x4)) C (by decide) (ce30 _) g7 rfl dX2_opensAwake_39 ?_
          refine r_imul (pc := 40) C dX2_opensAwake_40 ?_
          refine r_iadd (pc := 41) C dX2_opensAwake_41 ?_
          refine r_topi (fun v8 ev8 => ?_)
          replace h := h v8 ev8
          refine r_istore_n (pc := 42) (lv2 := [(2, .int v8), (0, .ref (ad X 29)), (1, .int x1), (3, .int x3), (4, .int x4)]) C dX2_opensAwake_42 (by decide) rfl ?_
          refine r_iload_n (pc := 43) C 3 dX2_opensAwake_43 rfl ?_
          refine r_aload_n (pc := 44) C 1 dX2_opensAwake_44 rfl ?_
          refine r_get (pc := 45) (k := 29) (j := 0) (Cn := RX2) (T := TX2) (N := 3) C (by decide) (ce29 _) rfl iaX2 (by decide) aw79 rfl rfl dX2_opensAwake_45 ?_
          refine r_iload (pc := 48) C 4 dX2_opensAwake_48 rfl ?_
          obtain ⟨g9, h⟩ := h
          refine q_iald (pc := 50) (k := 30) (n := 6) (j := (Int32.toNatClampNeg x4)) C (by decide) (ce30 _) g9 rfl dX2_opensAwake_50 ?_
          refine r_iadd (pc := 51) C dX2_opensAwake_51 ?_
          refine r_topi (fun v10 ev10 => ?_)
          replace h := h v10 ev10
          refine r_istore_n (pc := 52) (lv2 := [(3, .int v10), (2, .int v8), (0, .ref (ad X 29)), (1, .int x1), (4, .int x4)]) C dX2_opensAwake_52 (by decide) rfl ?_
          obtain ⟨v11, ev11⟩ : ∃ z : Int32, z = x4 + 1 := ⟨_, rfl⟩
          replace h := h v11 ev11
          refine r_iinc (pc := 53) (v := v11) (lv2 := [(4, .int v11), (3, .int v10), (2, .int v8), (0, .ref (ad X 29)), (1, .int x1)]) C 4 dX2_opensAwake_53 rfl (by rw [ev11]; rfl) (by decide) rfl ?_
          refine r_goto (pc := 56) (tgt := 7) C dX2_opensAwake_56 (by decide) ?_
          refine r_sub (lv2 := [(0, .ref (ad X 29)), (1, .int x1), (2, .int v8), (3, .int v10), (4, .int v11)]) [3, 4, 2, 1, 0] rfl ?_
          exact ih _ _ _ _ _ h
  unfold w_X2_opensAwake at h
  refine r_iconst (pc := 0) (v := 0) C dX2_opensAwake_0 (by decide) ?_
  refine r_istore_n (pc := 1) (lv2 := [(2, .int 0), (0, .ref (ad X 29)), (1, .int x1)]) C dX2_opensAwake_1 (by decide) rfl ?_
  refine r_iconst (pc := 2) (v := 0) C dX2_opensAwake_2 (by decide) ?_
  refine r_istore_n (pc := 3) (lv2 := [(3, .int 0), (2, .int 0), (0, .ref (ad X 29)), (1, .int x1)]) C dX2_opensAwake_3 (by decide) rfl ?_
  refine r_iconst (pc := 4) (v := 0) C dX2_opensAwake_4 (by decide) ?_
  refine r_istore (pc := 5) (lv2 := [(4, .int 0), (3, .int 0), (2, .int 0), (0, .ref (ad X 29)), (1, .int x1)]) C dX2_opensAwake_5 (by decide) rfl ?_
  obtain ⟨n1, h⟩ := h
  refine r_sub (lv2 := [(0, .ref (ad X 29)), (1, .int x1), (2, .int 0), (3, .int 0), (4, .int 0)]) [3, 4, 2, 1, 0] rfl ?_
  exact hL7  _ _ _ _ _ _ h
theorem yd_X2_opens : yX2_opens.cls ≠ "java/lang/invoke/MethodHandle" ∧ yX2_opens.cls ≠ "java/lang/invoke/VarHandle" ∧ (parseMethodDescriptor yX2_opens.desc).map (fun d => d.parameters.length) = some 0 := by decide +kernel
def w_X2_opens  (M : Mem)  (Q : Int32 → Mem → Prop) : Prop :=
  w_X2_opensAwake  M ((1 <<< ((M 29 2) &&& 31)) - 1) (fun r2 M1 => vz r2 ∧ Q r2 M1)
abbrev rm_X2_opens : Room := { frames := 6, cells := 0, slots := 0, locals := 120 }
set_option maxHeartbeats 4000000 in
set_option maxRecDepth 100000 in
theorem c_X2_opens (X : Cx)  (M : Mem)  (Q : Int32 → Mem → Prop) (h : w_X2_opens  M  Q) : Ct yX2_opens cX2_opens 1 (some .boolean) rm_X2_opens X M [.ref (ad X 29)] (Qi X Q) := by
  refine ct_of (own := RX2) (lv := [(0, .ref (ad X 29))]) rfl (by decide) (Nat.le_of_ble_eq_true rfl) rfl ?_
  intro K C
  unfold w_X2_opens at h
  refine r_aload_n (pc := 0) C 0 dX2_opens_0 rfl ?_
  refine r_iconst (pc := 1) (v := 1) C dX2_opens_1 (by decide) ?_
  refine r_aload_n (pc := 2) C 0 dX2_opens_2 rfl ?_
  refine r_get (pc := 3) (k := 29) (j := 2) (Cn := RX2) (T := TX2) (N := 3) C (by decide) (ce29 _) rfl iaX2 (by decide) aw431 rfl rfl dX2_opens_3 ?_
  refine r_ishl (pc := 6) C dX2_opens_6 ?_
  refine r_iconst (pc := 7) (v := 1) C dX2_opens_7 (by decide) ?_
  refine r_isub (pc := 8) C dX2_opens_8 ?_
  have hM := c_X2_opensAwake X  M ((1 <<< ((M 29 2) &&& 31)) - 1) _ h
  refine q_s0 (s1 := List.reverse [.int ((1 <<< ((M 29 2) &&& 31)) - 1)] ++ .ref (ad X 29) :: []) rfl ?_
  refine r_callVi (pc := 9) (k := 29) (As := [.int ((1 <<< ((M 29 2) &&& 31)) - 1)]) (st := []) C 1 (by decide) (ce29 _) rfl aw458 aw459 hM aw457 aw460 aw34 yd_X2_opensAwake ⟨rfl, rfl⟩ ⟨Nat.le_of_ble_eq_true rfl, Nat.le_of_ble_eq_true rfl⟩ rfl (Nat.le_of_ble_eq_true rfl) dX2_opens_9 (fun r2 M1 h => ?_)
  exact r_zret (pc := 12) C dX2_opens_12 h.1 h.2
theorem yd_X2_opensBehind : yX2_opensBehind.cls ≠ "java/lang/invoke/MethodHandle" ∧ yX2_opensBehind.cls ≠ "java/lang/invoke/VarHandle" ∧ (parseMethodDescriptor yX2_opensBehind.desc).map (fun d => d.parameters.length) = some 3 := by decide +kernel
def wJ_X2_opensBehind_44 (k2 : Nat) (Q : Int32 → Mem → Prop) (R9 : Mem → Int32 → Int32 → Int32 → Int32 → Int32 → Prop) (M : Mem) (x1 : Int32) (x3 : Int32) (x4 : Int32) (x5 : Int32) (x6 : Int32) (s0 : Int32) : Prop :=
  vp_in x6 6 ∧ (∀ v2 : Int32, v2 = (x4 + ((M 31 (Int32.toNatClampNeg x6)) * s0)) → (∀ v3 : Int32, v3 = (x5 + s0) → (∀ v4 : Int32, v4 = x6 + 1 → (R9 M x1 x3 v2 v3 v4))))
def wB_X2_opensBehind_9 (k2 : Nat) (Q : Int32 → Mem → Prop)  (R9 : Mem → Int32 → Int32 → Int32 → Int32 → Int32 → Prop) (M : Mem) (x1 : Int32) (x3 : Int32) (x4 : Int32) (x5 : Int32) (x6 : Int32) : Prop :=
  (((M 29 2) ≤ x6) → (((0 < x4) → (Q 1 M)) ∧ ((¬ 0 < x4) → (((¬ x5 = 0) → (Q 0 M)) ∧ ((x5 = 0) → (Q 1 M)))))) ∧ ((¬ (M 29 2) ≤ x6) → (((((x1 >>> (x6 &&& 31)) &&& 1) = 0) → (vp_in x6 6 ∧ (wJ_X2_opensBehind_44 k2 Q R9 M x1 x3 x4 x5 x6 (M 30 (Int32.toNatClampNeg x6))))) ∧ ((¬ ((x1 >>> (x6 &&& 31)) &&& 1) = 0) → (w_X6_weightOf k2 M x6 x3 (fun r7 M6 => wJ_X2_opensBehind_44 k2 Q R9 M6 x1 x3 x4 x5 x6 r7)))))
def wL_X2_opensBehind_9 (k2 : Nat) (Q : Int32 → Mem → Prop)  : Nat → Mem → Int32 → Int32 → Int32 → Int32 → Int32 → Prop
  | 0 => fun _ _ _ _ _ _ => False
  | n + 1 => fun M x1 x3 x4 x5 x6 => wB_X2_opensBehind_9 k2 Q  (wL_X2_opensBehind_9 k2 Q  n) M x1 x3 x4 x5 x6
theorem wL_X2_opensBehind_9_s {k2 : Nat} {Q : Int32 → Mem → Prop}  {n : Nat} {M : Mem} {x1 : Int32} {x3 : Int32} {x4 : Int32} {x5 : Int32} {x6 : Int32} (h : wL_X2_opensBehind_9 k2 Q  (n + 1) M x1 x3 x4 x5 x6) : wB_X2_opensBehind_9 k2 Q  (wL_X2_opensBehind_9 k2 Q  n) M x1 x3 x4 x5 x6 := h
def w_X2_opensBehind (k2 : Nat) (M : Mem) (x1 : Int32) (x3 : Int32) (Q : Int32 → Mem → Prop) : Prop :=
  ∃ n1 : Nat, wL_X2_opensBehind_9 k2 Q  n1 M x1 x3 0 0 0
abbrev rm_X2_opensBehind : Room := { frames := 9, cells := 0, slots := 0, locals := 180 }
set_option maxHeartbeats 4000000 in
set_option maxRecDepth 100000 in
theorem c_X2_opensBehind (X : Cx) (k2 : Nat) (h2 : kd k2 = 6) (M : Mem) (x1 : Int32) (x3 : Int32) (Q : Int32 → Mem → Prop) (h : w_X2_opensBehind k2 M x1 x3 Q) : Ct yX2_opensBehind cX2_opensBehind 8 (some .boolean) rm_X2_opensBehind X M [.ref (ad X 29), .int x1, .ref (ad X k2), .int x3] (Qi X Q) := by
  refine ct_of (own := RX2) (lv := [(0, .ref (ad X 29)), (1, .int x1), (2, .ref (ad X k2)), (3, .int x3)]) rfl (by decide) (Nat.le_of_ble_eq_true rfl) rfl ?_
  intro K C
  have hJ44 : ∀ (R9 : Mem → Int32 → Int32 → Int32 → Int32 → Int32 → Prop) (hR9 : ∀ (M : Mem) (x1 : Int32) (x3 : Int32) (x4 : Int32) (x5 : Int32) (x6 : Int32), R9 M x1 x3 x4 x5 x6 → WX K X 8 (Qi X Q) M 9 [(0, .ref (ad X 29)), (1, .int x1), (2, .ref (ad X k2)), (3, .int x3), (4, .int x4), (5, .int x5), (6, .int x6)] []) (M : Mem) (x1 : Int32) (x3 : Int32) (x4 : Int32) (x5 : Int32) (x6 : Int32) (s0 : Int32), wJ_X2_opensBehind_44 k2 Q R9 M x1 x3 x4 x5 x6 s0 → WX K X 8 (Qi X Q) M 44 [(0, .ref (ad X 29)), (1, .int x1), (2, .ref (ad X k2)), (3, .int x3), (4, .int x4), (5, .int x5), (6, .int x6)] [.int s0] := by
    intro R9 hR9 M x1 x3 x4 x5 x6 s0 h
    unfold wJ_X2_opensBehind_44 at h
    refine r_istore (pc := 44) (lv2 := [(7, .int s0), (0, .ref (ad X 29)), (1, .int x1), (2, .ref (ad X k2)), (3, .int x3), (4, .int x4), (5, .int x5), (6, .int x6)]) C dX2_opensBehind_44 (by decide) rfl ?_
    refine r_iload (pc := 46) C 5 dX2_opensBehind_46 rfl ?_
    refine r_aload_n (pc := 48) C 1 dX2_opensBehind_48 rfl ?_
    refine r_get (pc := 49) (k := 29) (j := 1) (Cn := RX2) (T := TX2) (N := 3) C (by decide) (ce29 _) rfl iaX2 (by decide) aw80 rfl rfl dX2_opensBehind_49 ?_
    refine r_iload (pc := 52) C 7 dX2_opensBehind_52 rfl ?_
    obtain ⟨g1, h⟩ := h
    refine q_iald (pc := 54) (k := 31) (n := 6) (j := (Int32.toNatClampNeg x6)) C (by decide) (ce31 _) g1 rfl dX2_opensBehind_54 ?_
    refine r_iload (pc := 55) C 0 dX2_opensBehind_55 rfl ?_
    refine r_imul (pc := 57) C dX2_opensBehind_57 ?_
    refine r_iadd (pc := 58) C dX2_opensBehind_58 ?_
    refine r_topi (fun v2 ev2 => ?_)
    replace h := h v2 ev2
    refine r_istore (pc := 59) (lv2 := [(4, .int v2), (7, .int s0), (0, .ref (ad X 29)), (1, .int x1), (2, .ref (ad X k2)), (3, .int x3), (5, .int x5), (6, .int x6)]) C dX2_opensBehind_59 (by decide) rfl ?_
    refine r_iload (pc := 61) C 6 dX2_opensBehind_61 rfl ?_
    refine r_iload (pc := 63) C 1 dX2_opensBehind_63 rfl ?_
    refine r_iadd (pc := 65) C dX2_opensBehind_65 ?_
    refine r_topi (fun v3 ev3 => ?_)
    replace h := h v3 ev3
    refine r_istore (pc := 66) (lv2 := [(5, .int v3), (4, .int v2), (7, .int s0), (0, .ref (ad X 29)), (1, .int x1), (2, .ref (ad X k2)), (3, .int x3), (6, .int x6)]) C dX2_opensBehind_66 (by decide) rfl ?_
    obtain ⟨v4, ev4⟩ : ∃ z : Int32, z = x6 + 1 := ⟨_, rfl⟩
    replace h := h v4 ev4
    refine r_iinc (pc := 68) (v := v4) (lv2 := [(6, .int v4), (5, .int v3), (4, .int v2), (7, .int s0), (0, .ref (ad X 29)), (1, .int x1), (2, .ref (ad X k2)), (3, .int x3)]) C 7 dX2_opensBehind_68 rfl (by rw [ev4]; rfl) (by decide) rfl ?_
    refine r_goto (pc := 71) (tgt := 9) C dX2_opensBehind_71 (by decide) ?_
    refine r_sub (lv2 := [(0, .ref (ad X 29)), (1, .int x1), (2, .ref (ad X k2)), (3, .int x3), (4, .int v2), (5, .int v3), (6, .int v4)]) [4, 5, 6, 7, 2, 1, 0] rfl ?_
    exact hR9 _ _ _ _ _ _ h
  have hL9 : ∀  (n : Nat) (M : Mem) (x1 : Int32) (x3 : Int32) (x4 : Int32) (x5 : Int32) (x6 : Int32), wL_X2_opensBehind_9 k2 Q  n M x1 x3 x4 x5 x6 → WX K X 8 (Qi X Q) M 9 [(0, .ref (ad X 29)), (1, .int x1), (2, .ref (ad X k2)), (3, .int x3), (4, .int x4), (5, .int x5), (6, .int x6)] [] := by
    intro  n
    induction n with
    | zero => intro M x1 x3 x4 x5 x6 h; exact absurd h id
    | succ n ih =>
      intro M x1 x3 x4 x5 x6 h
      replace h := wL_X2_opensBehind_9_s h
      unfold wB_X2_opensBehind_9 at h
      refine r_iload (pc := 9) C 6 dX2_opensBehind_9 rfl ?_
      refine r_aload_n (pc := 11) C 0 dX2_opensBehind_11 rfl ?_
      refine r_get (pc := 12) (k := 29) (j := 2) (Cn := RX2) (T := TX2) (N := 3) C (by decide) (ce29 _) rfl iaX2 (by decide) aw431 rfl rfl dX2_opensBehind_12 ?_
      refine r_icmp_ge (pc := 15) (tgt := 74) C dX2_opensBehind_15 (by decide) (fun c1 => ?_) (fun c1 => ?_)
      · have h := h.1 c1
        refine r_iload (pc := 74) C 4 dX2_opensBehind_74 rfl ?_
        refine r_if_gt (pc := 76) (tgt := 84) C dX2_opensBehind_76 (by decide) (fun c2 => ?_) (fun c2 => ?_)
        · have h := h.1 c2
          refine r_iconst (pc := 84) (v := 1) C dX2_opensBehind_84 (by decide) ?_
          refine r_goto (pc := 85) (tgt := 89) C dX2_opensBehind_85 (by decide) ?_
          exact r_zret (pc := 89) C dX2_opensBehind_89 (Or.inr rfl) h
        · have h := h.2 c2
          refine r_iload (pc := 79) C 5 dX2_opensBehind_79 rfl ?_
          refine r_if_ne (pc := 81) (tgt := 88) C dX2_opensBehind_81 (by decide) (fun c3 => ?_) (fun c3 => ?_)
          · have h := h.1 c3
            refine r_iconst (pc := 88) (v := 0) C dX2_opensBehind_88 (by decide) ?_
            exact r_zret (pc := 89) C dX2_opensBehind_89 (Or.inl rfl) h
          · have h := h.2 c3
            refine r_iconst (pc := 84) (v := 1) C dX2_opensBehind_84 (by decide) ?_
            refine r_goto (pc := 85) (tgt := 89) C dX2_opensBehind_85 (by decide) ?_
            exact r_zret (pc := 89) C dX2_opensBehind_89 (Or.inr rfl) h
      · have h := h.2 c1
        refine r_iload_n (pc := 18) C 1 dX2_opensBehind_18 rfl ?_
        refine r_iload (pc := 19) C 6 dX2_opensBehind_19 rfl ?_
        refine r_ishr (pc := 21) C dX2_opensBehind_21 ?_
        refine r_iconst (pc := 22) (v := 1) C dX2_opensBehind_22 (by decide) ?_
        refine r_iand (pc := 23) C dX2_opensBehind_23 ?_
        refine r_if_eq (pc := 24) (tgt := 37) C dX2_opensBehind_24 (by decide) (fun c4 => ?_) (fun c4 => ?_)
        · have h := h.1 c4
          refine r_aload_n (pc := 37) C 0 dX2_opensBehind_37 rfl ?_
          refine r_get (pc := 38) (k := 29) (j := 0) (Cn := RX2) (T := TX2) (N := 3) C (by decide) (ce29 _) rfl iaX2 (by decide) aw79 rfl rfl dX2_opensBehind_38 ?_
          refine r_iload (pc := 41) C 6 dX2_opensBehind_41 rfl ?_
          obtain ⟨g5, h⟩ := h
          refine q_iald (pc := 43) (k := 30) (n := 6) (j := (Int32.toNatClampNeg x6)) C (by decide) (ce30 _) g5 rfl dX2_opensBehind_43 ?_
          refine r_sub (lv2 := [(0, .ref (ad X 29)), (1, .int x1), (2, .ref (ad X k2)), (3, .int x3), (4, .int x4), (5, .int x5), (6, .int x6)]) [0, 1, 2, 3, 4, 5, 6] rfl ?_
          exact hJ44 _ ih _ _ _ _ _ _ _ h
        · have h := h.2 c4
          refine r_aload_n (pc := 27) C 2 dX2_opensBehind_27 rfl ?_
          refine r_iload (pc := 28) C 6 dX2_opensBehind_28 rfl ?_
          refine r_iload_n (pc := 30) C 3 dX2_opensBehind_30 rfl ?_
          have hM := c_X6_weightOf X k2 h2 M x6 x3 _ h
          refine q_s0 (s1 := List.reverse [.int x6, .int x3] ++ .ref (ad X k2) :: []) rfl ?_
          refine r_callVNi (pc := 31) (k := k2) (As := [.int x6, .int x3]) (st := []) C 2 (bdT h2) (ceT h2 _) rfl aw432 aw433 hM nm28 aw434 aw28 yd_X6_weightOf ⟨rfl, rfl⟩ ⟨Nat.le_of_ble_eq_true rfl, Nat.le_of_ble_eq_true rfl⟩ rfl (Nat.le_of_ble_eq_true rfl) dX2_opensBehind_31 (fun r7 M6 h => ?_)
          refine r_goto (pc := 34) (tgt := 44) C dX2_opensBehind_34 (by decide) ?_
          refine r_sub (lv2 := [(0, .ref (ad X 29)), (1, .int x1), (2, .ref (ad X k2)), (3, .int x3), (4, .int x4), (5, .int x5), (6, .int x6)]) [0, 1, 2, 3, 4, 5, 6] rfl ?_
          exact hJ44 _ ih _ _ _ _ _ _ _ h
  unfold w_X2_opensBehind at h
  refine r_iconst (pc := 0) (v := 0) C dX2_opensBehind_0 (by decide) ?_
  refine r_istore (pc := 1) (lv2 := [(4, .int 0), (0, .ref (ad X 29)), (1, .int x1), (2, .ref (ad X k2)), (3, .int x3)]) C dX2_opensBehind_1 (by decide) rfl ?_
  refine r_iconst (pc := 3) (v := 0) C dX2_opensBehind_3 (by decide) ?_
  refine r_istore (pc := 4) (lv2 := [(5, .int 0), (4, .int 0), (0, .ref (ad X 29)), (1, .int x1), (2, .ref (ad X k2)), (3, .int x3)]) C dX2_opensBehind_4 (by decide) rfl ?_
  refine r_iconst (pc := 6) (v := 0) C dX2_opensBehind_6 (by decide) ?_
  refine r_istore (pc := 7) (lv2 := [(6, .int 0), (5, .int 0), (4, .int 0), (0, .ref (ad X 29)), (1, .int x1), (2, .ref (ad X k2)), (3, .int x3)]) C dX2_opensBehind_7 (by decide) rfl ?_
  obtain ⟨n1, h⟩ := h
  refine r_sub (lv2 := [(0, .ref (ad X 29)), (1, .int x1), (2, .ref (ad X k2)), (3, .int x3), (4, .int 0), (5, .int 0), (6, .int 0)]) [3, 4, 5, 6, 2, 1, 0] rfl ?_
  exact hL9  _ _ _ _ _ _ _ h
theorem yd_X3_take : yX3_take.cls ≠ "java/lang/invoke/MethodHandle" ∧ yX3_take.cls ≠ "java/lang/invoke/VarHandle" ∧ (parseMethodDescriptor yX3_take.desc).map (fun d => d.parameters.length) = some 1 := by decide +kernel
def w_X3_take  (M : Mem) (x1 : Int32) (Q : Int32 → Mem → Prop) : Prop :=
  vp_in (M 19 1) 120 ∧ (∀ M2 : Mem, M2 = ms M 20 (Int32.toNatClampNeg (M 19 1)) x1 → (∀ v3 : Int32, v3 = ((M2 19 1) + 1) → (∀ M4 : Mem, M4 = ms M2 19 1 v3 → (Q (M4 19 1) M4))))
abbrev rm_X3_take : Room := { frames := 3, cells := 0, slots := 0, locals := 60 }
set_option maxHeartbeats 4000000 in
set_option maxRecDepth 100000 in
theorem c_X3_take (X : Cx)  (M : Mem) (x1 : Int32) (Q : Int32 → Mem → Prop) (h : w_X3_take  M x1 Q) : Ct yX3_take cX3_take 2 (some .int) rm_X3_take X M [.ref (ad X 19), .int x1] (Qi X Q) := by
  refine ct_of (own := RX3) (lv := [(0, .ref (ad X 19)), (1, .int x1)]) rfl (by decide) (Nat.le_of_ble_eq_true rfl) rfl ?_
  intro K C
  unfold w_X3_take at h
  refine r_aload_n (pc := 0) C 0 dX3_take_0 rfl ?_
  refine r_get (pc := 1) (k := 19) (j := 0) (Cn := RX3) (T := TX3) (N := 6) C (by decide) (ce19 _) rfl iaX3 (by decide) aw50 rfl rfl dX3_take_1 ?_
  refine r_aload_n (pc := 4) C 0 dX3_take_4 rfl ?_
  refine r_get (pc := 5) (k := 19) (j := 1) (Cn := RX3) (T := TX3) (N := 6) C (by decide) (ce19 _) rfl iaX3 (by decide) aw216 rfl rfl dX3_take_5 ?_
  refine r_iload_n (pc := 8) C 1 dX3_take_8 rfl ?_
  obtain ⟨g1, h⟩ := h
  refine q_iast (pc := 9) (k := 20) (n := 120) (j := (Int32.toNatClampNeg (M 19 1))) C (by decide) (ce20) g1 rfl dX3_take_9 ?_
  refine r_topM (fun M2 eM2 => ?_)
  replace h := h M2 eM2
  refine r_aload_n (pc := 10) C 0 dX3_take_10 rfl ?_
  refine r_dup (pc := 11) C dX3_take_11 rfl ?_
  refine r_get (pc := 12) (k := 19) (j := 1) (Cn := RX3) (T := TX3) (N := 6) C (by decide) (ce19 _) rfl iaX3 (by decide) aw216 rfl rfl dX3_take_12 ?_
  refine r_iconst (pc := 15) (v := 1) C dX3_take_15 (by decide) ?_
  refine r_iadd (pc := 16) C dX3_take_16 ?_
  refine r_topi (fun v3 ev3 => ?_)
  replace h := h v3 ev3
  refine r_put (pc := 17) (k := 19) (j := 1) (Cn := RX3) (T := TX3) (N := 6) (host := "") C (by decide) (ce19 _) rfl iaX3 (by decide) (ce19 _) tyX3_ok nmX3 aw216 rfl rfl (tyX3_ok 1 (by decide)) (Nat.le_of_ble_eq_true rfl) dX3_take_17 ?_
  refine r_topM (fun M4 eM4 => ?_)
  replace h := h M4 eM4
  refine r_aload_n (pc := 20) C 0 dX3_take_20 rfl ?_
  refine r_get (pc := 21) (k := 19) (j := 1) (Cn := RX3) (T := TX3) (N := 6) C (by decide) (ce19 _) rfl iaX3 (by decide) aw216 rfl rfl dX3_take_21 ?_
  exact r_iret (pc := 24) C dX3_take_24 h
theorem yd_X8_within : yX8_within.cls ≠ "java/lang/invoke/MethodHandle" ∧ yX8_within.cls ≠ "java/lang/invoke/VarHandle" ∧ (parseMethodDescriptor yX8_within.desc).map (fun d => d.parameters.length) = some 2 := by decide +kernel
def w_X8_within  (M : Mem) (x0 : Int32) (x1 : Int32) (Q : Int32 → Mem → Prop) : Prop :=
  ((x0 < 0) → (Q 0 M)) ∧ ((¬ x0 < 0) → (((x1 ≤ x0) → (Q 0 M)) ∧ ((¬ x1 ≤ x0) → (Q 1 M))))
abbrev rm_X8_within : Room := { frames := 3, cells := 0, slots := 0, locals := 60 }
set_option maxHeartbeats 4000000 in
set_option maxRecDepth 100000 in
theorem c_X8_within (X : Cx)  (M : Mem) (x0 : Int32) (x1 : Int32) (Q : Int32 → Mem → Prop) (h : w_X8_within  M x0 x1 Q) : Ct yX8_within cX8_within 2 (some .boolean) rm_X8_within X M [.int x0, .int x1] (Qi X Q) := by
  refine ct_of (own := RX8) (lv := [(0, .int x0), (1, .int x1)]) rfl (by decide) (Nat.le_of_ble_eq_true rfl) rfl ?_
  intro K C
  unfold w_X8_within at h
  refine r_iload_n (pc := 0) C 0 dX8_within_0 rfl ?_
  refine r_if_lt (pc := 1) (tgt := 13) C dX8_within_1 (by decide) (fun c1 => ?_) (fun c1 => ?_)
  · have h := h.1 c1
    refine r_iconst (pc := 13) (v := 0) C dX8_within_13 (by decide) ?_
    exact r_zret (pc := 14) C dX8_within_14 (Or.inl rfl) h
  · have h := h.2 c1
    refine r_iload_n (pc := 4) C 0 dX8_within_4 rfl ?_
    refine r_iload_n (pc := 5) C 1 dX8_within_5 rfl ?_
    refine r_icmp_ge (pc := 6) (tgt := 13) C dX8_within_6 (by decide) (fun c2 => ?_) (fun c2 => ?_)
    · have h := h.1 c2
      refine r_iconst (pc := 13) (v := 0) C dX8_within_13 (by decide) ?_
      exact r_zret (pc := 14) C dX8_within_14 (Or.inl rfl) h
    · have h := h.2 c2
      refine r_iconst (pc := 9) (v := 1) C dX8_within_9 (by decide) ?_
      refine r_goto (pc := 10) (tgt := 14) C dX8_within_10 (by decide) ?_
      exact r_zret (pc := 14) C dX8_within_14 (Or.inr rfl) h
theorem yd_X3_byteAt : yX3_byteAt.cls ≠ "java/lang/invoke/MethodHandle" ∧ yX3_byteAt.cls ≠ "java/lang/invoke/VarHandle" ∧ (parseMethodDescriptor yX3_byteAt.desc).map (fun d => d.parameters.length) = some 1 := by decide +kernel
def w_X3_byteAt  (M : Mem) (x1 : Int32) (Q : Int32 → Mem → Prop) : Prop :=
  w_X8_within  M x1 (M 19 1) (fun r2 M1 => ((r2 = 0) → (Q (-1) M1)) ∧ ((¬ r2 = 0) → (vp_in x1 120 ∧ (Q (M1 20 (Int32.toNatClampNeg x1)) M1))))
abbrev rm_X3_byteAt : Room := { frames := 6, cells := 0, slots := 0, locals := 120 }
set_option maxHeartbeats 4000000 in
set_option maxRecDepth 100000 in
theorem c_X3_byteAt (X : Cx)  (M : Mem) (x1 : Int32) (Q : Int32 → Mem → Prop) (h : w_X3_byteAt  M x1 Q) : Ct yX3_byteAt cX3_byteAt 2 (some .int) rm_X3_byteAt X M [.ref (ad X 19), .int x1] (Qi X Q) := by
  refine ct_of (own := RX3) (lv := [(0, .ref (ad X 19)), (1, .int x1)]) rfl (by decide) (Nat.le_of_ble_eq_true rfl) rfl ?_
  intro K C
  unfold w_X3_byteAt at h
  refine r_iload_n (pc := 0) C 1 dX3_byteAt_0 rfl ?_
  refine r_aload_n (pc := 1) C 0 dX3_byteAt_1 rfl ?_
  refine r_get (pc := 2) (k := 19) (j := 1) (Cn := RX3) (T := TX3) (N := 6) C (by decide) (ce19 _) rfl iaX3 (by decide) aw216 rfl rfl dX3_byteAt_2 ?_
  have hM := c_X8_within X  M x1 (M 19 1) _ h
  refine q_s0 (s1 := List.reverse [.int x1, .int (M 19 1)] ++ []) rfl ?_
  refine r_callSNi (pc := 5) (As := [.int x1, .int (M 19 1)]) (st := []) C 2 hM nm15 aw117 aw118 aw2 yd_X8_within ⟨rfl, rfl⟩ ⟨Nat.le_of_ble_eq_true rfl, Nat.le_of_ble_eq_true rfl⟩ rfl (Nat.le_of_ble_eq_true rfl) dX3_byteAt_5 (fun r2 M1 h => ?_)
  refine r_if_eq (pc := 8) (tgt := 20) C dX3_byteAt_8 (by decide) (fun c3 => ?_) (fun c3 => ?_)
  · have h := h.1 c3
    refine r_iconst (pc := 20) (v := (-1)) C dX3_byteAt_20 (by decide) ?_
    exact r_iret (pc := 21) C dX3_byteAt_21 h
  · have h := h.2 c3
    refine r_aload_n (pc := 11) C 0 dX3_byteAt_11 rfl ?_
    refine r_get (pc := 12) (k := 19) (j := 0) (Cn := RX3) (T := TX3) (N := 6) C (by decide) (ce19 _) rfl iaX3 (by decide) aw50 rfl rfl dX3_byteAt_12 ?_
    refine r_iload_n (pc := 15) C 1 dX3_byteAt_15 rfl ?_
    obtain ⟨g4, h⟩ := h
    refine q_iald (pc := 16) (k := 20) (n := 120) (j := (Int32.toNatClampNeg x1)) C (by decide) (ce20 _) g4 rfl dX3_byteAt_16 ?_
    refine r_goto (pc := 17) (tgt := 21) C dX3_byteAt_17 (by decide) ?_
    exact r_iret (pc := 21) C dX3_byteAt_21 h
theorem yd_X3_failed : yX3_failed.cls ≠ "java/lang/invoke/MethodHandle" ∧ yX3_failed.cls ≠ "java/lang/invoke/VarHandle" ∧ (parseMethodDescriptor yX3_failed.desc).map (fun d => d.parameters.length) = some 1 := by decide +kernel
def w_X3_failed  (M : Mem) (x1 : Int32) (Q : Int32 → Mem → Prop) : Prop :=
  ∀ M1 : Mem, M1 = ms M 19 3 x1 → (Q 0 M1)
abbrev rm_X3_failed : Room := { frames := 3, cells := 0, slots := 0, locals := 60 }
set_option maxHeartbeats 4000000 in
set_option maxRecDepth 100000 in
theorem c_X3_failed (X : Cx)  (M : Mem) (x1 : Int32) (Q : Int32 → Mem → Prop) (h : w_X3_failed  M x1 Q) : Ct yX3_failed cX3_failed 2 (some .boolean) rm_X3_failed X M [.ref (ad X 19), .int x1] (Qi X Q) := by
  refine ct_of (own := RX3) (lv := [(0, .ref (ad X 19)), (1, .int x1)]) rfl (by decide) (Nat.le_of_ble_eq_true rfl) rfl ?_
  intro K C
  unfold w_X3_failed at h
  refine r_aload_n (pc := 0) C 0 dX3_failed_0 rfl ?_
  refine r_iload_n (pc := 1) C 1 dX3_failed_1 rfl ?_
  refine r_put (pc := 2) (k := 19) (j := 3) (Cn := RX3) (T := TX3) (N := 6) (host := "") C (by decide) (ce19 _) rfl iaX3 (by decide) (ce19 _) tyX3_ok nmX3 aw252 rfl rfl (tyX3_ok 3 (by decide)) (Nat.le_of_ble_eq_true rfl) dX3_failed_2 ?_
  refine r_topM (fun M1 eM1 => ?_)
  replace h := h M1 eM1
  refine r_iconst (pc := 5) (v := 0) C dX3_failed_5 (by decide) ?_
  exact r_zret (pc := 6) C dX3_failed_6 (Or.inl rfl) h
theorem yd_X3_readSign : yX3_readSign.cls ≠ "java/lang/invoke/MethodHandle" ∧ yX3_readSign.cls ≠ "java/lang/invoke/VarHandle" ∧ (parseMethodDescriptor yX3_readSign.desc).map (fun d => d.parameters.length) = some 1 := by decide +kernel
def w_X3_readSign  (M : Mem) (x1 : Int32) (Q : Int32 → Mem → Prop) : Prop :=
  w_X3_byteAt  M (M 19 2) (fun r2 M1 => ((r2 = x1) → (∀ v4 : Int32, v4 = ((M1 19 2) + 1) → (∀ M5 : Mem, M5 = ms M1 19 2 v4 → (Q 1 M5)))) ∧ ((¬ r2 = x1) → (w_X3_failed  M1 1 (fun r7 M6 => vz r7 ∧ Q r7 M6))))
abbrev rm_X3_readSign : Room := { frames := 9, cells := 0, slots := 0, locals := 180 }
set_option maxHeartbeats 4000000 in
set_option maxRecDepth 100000 in
theorem c_X3_readSign (X : Cx)  (M : Mem) (x1 : Int32) (Q : Int32 → Mem → Prop) (h : w_X3_readSign  M x1 Q) : Ct yX3_readSign cX3_readSign 2 (some .boolean) rm_X3_readSign X M [.ref (ad X 19), .int x1] (Qi X Q) := by
  refine ct_of (own := RX3) (lv := [(0, .ref (ad X 19)), (1, .int x1)]) rfl (by decide) (Nat.le_of_ble_eq_true rfl) rfl ?_
  intro K C
  unfold w_X3_readSign at h
  refine r_aload_n (pc := 0) C 0 dX3_readSign_0 rfl ?_
  refine r_aload_n (pc := 1) C 0 dX3_readSign_1 rfl ?_
  refine r_get (pc := 2) (k := 19) (j := 2) (Cn := RX3) (T := TX3) (N := 6) C (by decide) (ce19 _) rfl iaX3 (by decide) aw233 rfl rfl dX3_readSign_2 ?_
  have hM := c_X3_byteAt X  M (M 19 2) _ h
  refine q_s0 (s1 := List.reverse [.int (M 19 2)] ++ .ref (ad X 19) :: []) rfl ?_
  refine r_callVi (pc := 5) (k := 19) (As := [.int (M 19 2)]) (st := []) C 1 (by decide) (ce19 _) rfl aw245 aw246 hM aw244 aw247 aw16 yd_X3_byteAt ⟨rfl, rfl⟩ ⟨Nat.le_of_ble_eq_true rfl, Nat.le_of_ble_eq_true rfl⟩ rfl (Nat.le_of_ble_eq_true rfl) dX3_readSign_5 (fun r2 M1 h => ?_)
  refine r_iload_n (pc := 8) C 1 dX3_readSign_8 rfl ?_
  refine r_icmp_eq (pc := 9) (tgt := 18) C dX3_readSign_9 (by decide) (fun c3 => ?_) (fun c3 => ?_)
  · have h := h.1 c3
    refine r_aload_n (pc := 18) C 0 dX3_readSign_18 rfl ?_
    refine r_dup (pc := 19) C dX3_readSign_19 rfl ?_
    refine r_get (pc := 20) (k := 19) (j := 2) (Cn := RX3) (T := TX3) (N := 6) C (by decide) (ce19 _) rfl iaX3 (by decide) aw233 rfl rfl dX3_readSign_20 ?_
    refine r_iconst (pc := 23) (v := 1) C dX3_readSign_23 (by decide) ?_
    refine r_iadd (pc := 24) C dX3_readSign_24 ?_
    refine r_topi (fun v4 ev4 => ?_)
    replace h := h v4 ev4
    refine r_put (pc := 25) (k := 19) (j := 2) (Cn := RX3) (T := TX3) (N := 6) (host := "") C (by decide) (ce19 _) rfl iaX3 (by decide) (ce19 _) tyX3_ok nmX3 aw233 rfl rfl (tyX3_ok 2 (by decide)) (Nat.le_of_ble_eq_true rfl) dX3_readSign_25 ?_
    refine r_topM (fun M5 eM5 => ?_)
    replace h := h M5 eM5
    refine r_iconst (pc := 28) (v := 1) C dX3_readSign_28 (by decide) ?_
    exact r_zret (pc := 29) C dX3_readSign_29 (Or.inr rfl) h
  · have h := h.2 c3
    refine r_aload_n (pc := 12) C 0 dX3_readSign_12 rfl ?_
    refine r_iconst (pc := 13) (v := 1) C dX3_readSign_13 (by decide) ?_
    have hM := c_X3_failed X  M1 1 _ h
    refine q_s0 (s1 := List.reverse [.int 1] ++ .ref (ad X 19) :: []) rfl ?_
    refine r_callVi (pc := 14) (k := 19) (As := [.int 1]) (st := []) C 1 (by decide) (ce19 _) rfl aw249 aw250 hM aw248 aw251 aw16 yd_X3_failed ⟨rfl, rfl⟩ ⟨Nat.le_of_ble_eq_true rfl, Nat.le_of_ble_eq_true rfl⟩ rfl (Nat.le_of_ble_eq_true rfl) dX3_readSign_14 (fun r7 M6 h => ?_)
    exact r_zret (pc := 17) C dX3_readSign_17 h.1 h.2
theorem yd_X3_isFigure : yX3_isFigure.cls ≠ "java/lang/invoke/MethodHandle" ∧ yX3_isFigure.cls ≠ "java/lang/invoke/VarHandle" ∧ (parseMethodDescriptor yX3_isFigure.desc).map (fun d => d.parameters.length) = some 1 := by decide +kernel
def w_X3_isFigure  (M : Mem) (x0 : Int32) (Q : Int32 → Mem → Prop) : Prop :=
  ((x0 < 48) → (Q 0 M)) ∧ ((¬ x0 < 48) → (((57 < x0) → (Q 0 M)) ∧ ((¬ 57 < x0) → (Q 1 M))))
abbrev rm_X3_isFigure : Room := { frames := 3, cells := 0, slots := 0, locals := 60 }
set_option maxHeartbeats 4000000 in
set_option maxRecDepth 100000 in
theorem c_X3_isFigure (X : Cx)  (M : Mem) (x0 : Int32) (Q : Int32 → Mem → Prop) (h : w_X3_isFigure  M x0 Q) : Ct yX3_isFigure cX3_isFigure 1 (some .boolean) rm_X3_isFigure X M [.int x0] (Qi X Q) := by
  refine ct_of (own := RX3) (lv := [(0, .int x0)]) rfl (by decide) (Nat.le_of_ble_eq_true rfl) rfl ?_
  intro K C
  unfold w_X3_isFigure at h
  refine r_iload_n (pc := 0) C 0 dX3_isFigure_0 rfl ?_
  refine r_bipush (pc := 1) (v := 48) C dX3_isFigure_1 (by decide) ?_
  refine r_icmp_lt (pc := 3) (tgt := 16) C dX3_isFigure_3 (by decide) (fun c1 => ?_) (fun c1 => ?_)
  · have h := h.1 c1
    refine r_iconst (pc := 16) (v := 0) C dX3_isFigure_16 (by decide) ?_
    exact r_zret (pc := 17) C dX3_isFigure_17 (Or.inl rfl) h
  · have h := h.2 c1
    refine r_iload_n (pc := 6) C 0 dX3_isFigure_6 rfl ?_
    refine r_bipush (pc := 7) (v := 57) C dX3_isFigure_7 (by decide) ?_
    refine r_icmp_gt (pc := 9) (tgt := 16) C dX3_isFigure_9 (by decide) (fun c2 => ?_) (fun c2 => ?_)
    · have h := h.1 c2
      refine r_iconst (pc := 16) (v := 0) C dX3_isFigure_16 (by decide) ?_
      exact r_zret (pc := 17) C dX3_isFigure_17 (Or.inl rfl) h
    · have h := h.2 c2
      refine r_iconst (pc := 12) (v := 1) C dX3_isFigure_12 (by decide) ?_
      refine r_goto (pc := 13) (tgt := 17) C dX3_isFigure_13 (by decide) ?_
      exact r_zret (pc := 17) C dX3_isFigure_17 (Or.inr rfl) h
theorem yd_X3_readNumber : yX3_readNumber.cls ≠ "java/lang/invoke/MethodHandle" ∧ yX3_readNumber.cls ≠ "java/lang/invoke/VarHandle" ∧ (parseMethodDescriptor yX3_readNumber.desc).map (fun d => d.parameters.length) = some 3 := by decide +kernel
def wJ_X3_readNumber_63  (Q : Int32 → Mem → Prop)  (M : Mem) (x1 : Int32) (x2 : Int32) (x3 : Int32) (x4 : Int32) (x5 : Int32) : Prop :=
  ((x4 = 0) → (w_X3_failed  M 1 (fun r3 M2 => Q (-1000000) M2))) ∧ ((¬ x4 = 0) → (((x4 ≤ 2) → (((x5 < x1) → (w_X3_failed  M 2 (fun r7 M6 => Q (-1000000) M6))) ∧ ((¬ x5 < x1) → (((x2 < x5) → (w_X3_failed  M 2 (fun r10 M9 => Q (-1000000) M9))) ∧ ((¬ x2 < x5) → (((((x3 >>> (x5 &&& 31)) &&& 1) = 0) → (∀ v12 : Int32, v12 = ((M 19 2) + x4) → (∀ M13 : Mem, M13 = ms M 19 2 v12 → (Q x5 M13)))) ∧ ((¬ ((x3 >>> (x5 &&& 31)) &&& 1) = 0) → (w_X3_failed  M 2 (fun r15 M14 => Q (-1000000) M14))))))))) ∧ ((¬ x4 ≤ 2) → (w_X3_failed  M 1 (fun r17 M16 => Q (-1000000) M16)))))
def wB_X3_readNumber_9  (Q : Int32 → Mem → Prop)  (R9 : Mem → Int32 → Int32 → Int32 → Int32 → Int32 → Int32 → Prop) (M : Mem) (x1 : Int32) (x2 : Int32) (x3 : Int32) (x4 : Int32) (x5 : Int32) (x6 : Int32) : Prop :=
  ((3 ≤ x6) → (wJ_X3_readNumber_63  Q  M x1 x2 x3 x4 x5)) ∧ ((¬ 3 ≤ x6) → (w_X3_byteAt  M ((M 19 2) + x6) (fun r3 M2 => w_X3_isFigure  M2 r3 (fun r5 M4 => ((r5 = 0) → (wJ_X3_readNumber_63  Q  M4 x1 x2 x3 x4 x5)) ∧ ((¬ r5 = 0) → (w_X3_byteAt  M4 ((M4 19 2) + x6) (fun r8 M7 => ∀ v9 : Int32, v9 = (((x5 * 10) + r8) - 48) → (∀ v10 : Int32, v10 = x4 + 1 → (∀ v11 : Int32, v11 = x6 + 1 → (R9 M7 x1 x2 x3 v10 v9 v11))))))))))
def wL_X3_readNumber_9  (Q : Int32 → Mem → Prop)  : Nat → Mem → Int32 → Int32 → Int32 → Int32 → Int32 → Int32 → Prop
  | 0 => fun _ _ _ _ _ _ _ => False
  | n + 1 => fun M x1 x2 x3 x4 x5 x6 => wB_X3_readNumber_9  Q  (wL_X3_readNumber_9  Q  n) M x1 x2 x3 x4 x5 x6
theorem wL_X3_readNumber_9_s  {Q : Int32 → Mem → Prop}  {n : Nat} {M : Mem} {x1 : Int32} {x2 : Int32} {x3 : Int32} {x4 : Int32} {x5 : Int32} {x6 : Int32} (h : wL_X3_readNumber_9  Q  (n + 1) M x1 x2 x3 x4 x5 x6) : wB_X3_readNumber_9  Q  (wL_X3_readNumber_9  Q  n) M x1 x2 x3 x4 x5 x6 := h
def w_X3_readNumber  (M : Mem) (x1 : Int32) (x2 : Int32) (x3 : Int32) (Q : Int32 → Mem → Prop) : Prop :=
  ∃ n1 : Nat, wL_X3_readNumber_9  Q  n1 M x1 x2 x3 0 0 0
abbrev rm_X3_readNumber : Room := { frames := 9, cells := 0, slots := 0, locals := 180 }
set_option maxHeartbeats 4000000 in
set_option maxRecDepth 100000 in
theorem c_X3_readNumber (X : Cx)  (M : Mem) (x1 : Int32) (x2 : Int32) (x3 : Int32) (Q : Int32 → Mem → Prop) (h : w_X3_readNumber  M x1 x2 x3 Q) : Ct yX3_readNumber cX3_readNumber 7 (some .int) rm_X3_readNumber X M [.ref (ad X 19), .int x1, .int x2, .int x3] (Qi X Q) := by
  refine ct_of (own := RX3) (lv := [(0, .ref (ad X 19)), (1, .int x1), (2, .int x2), (3, .int x3)]) rfl (by decide) (Nat.le_of_ble_eq_true rfl) rfl ?_
  intro K C
  have hJ63 : ∀  (M : Mem) (x1 : Int32) (x2 : Int32) (x3 : Int32) (x4 : Int32) (x5 : Int32), wJ_X3_readNumber_63  Q  M x1 x2 x3 x4 x5 → WX K X 7 (Qi X Q) M 63 [(0, .ref (ad X 19)), (1, .int x1), (2, .int x2), (3, .int x3), (4, .int x4), (5, .int x5)] [] := by
    intro  M x1 x2 x3 x4 x5 h
    unfold wJ_X3_readNumber_63 at h
    refine r_iload (pc := 63) C 4 dX3_readNumber_63 rfl ?_
    refine r_if_eq (pc := 65) (tgt := 74) C dX3_readNumber_65 (by decide) (fun c1 => ?_) (fun c1 => ?_)
    · have h := h.1 c1
      refine r_aload_n (pc := 74) C 0 dX3_readNumber_74 rfl ?_
      refine r_iconst (pc := 75) (v := 1) C dX3_readNumber_75 (by decide) ?_
      have hM := c_X3_failed X  M 1 _ h
      refine q_s0 (s1 := List.reverse [.int 1] ++ .ref (ad X 19) :: []) rfl ?_
      refine r_callVi (pc := 76) (k := 19) (As := [.int 1]) (st := []) C 1 (by decide) (ce19 _) rfl aw249 aw250 hM aw248 aw251 aw16 yd_X3_failed ⟨rfl, rfl⟩ ⟨Nat.le_of_ble_eq_true rfl, Nat.le_of_ble_eq_true rfl⟩ rfl (Nat.le_of_ble_eq_true rfl) dX3_readNumber_76 (fun r3 M2 h => ?_)
      refine r_pop (pc := 79) C dX3_readNumber_79 rfl ?_
      refine r_ldc (pc := 80) C aw257 dX3_readNumber_80 ?_
      exact r_iret (pc := 82) C dX3_readNumber_82 h
    · have h := h.2 c1
      refine r_iload (pc := 68) C 4 dX3_readNumber_68 rfl ?_
      refine r_iconst (pc := 70) (v := 2) C dX3_readNumber_70 (by decide) ?_
      refine r_icmp_le (pc := 71) (tgt := 83) C dX3_readNumber_71 (by decide) (fun c4 => ?_) (fun c4 => ?_)
      · have h := h.1 c4
        refine r_iload (pc := 83) C 5 dX3_readNumber_83 rfl ?_
        refine r_iload_n (pc := 85) C 1 dX3_readNumber_85 rfl ?_
        refine r_icmp_lt (pc := 86) (tgt := 104) C dX3_readNumber_86 (by decide) (fun c5 => ?_) (fun c5 => ?_)
        · have h := h.1 c5
          refine r_aload_n (pc := 104) C 0 dX3_readNumber_104 rfl ?_
          refine r_iconst (pc := 105) (v := 2) C dX3_readNumber_105 (by decide) ?_
          have hM := c_X3_failed X  M 2 _ h
          refine q_s0 (s1 := List.reverse [.int 2] ++ .ref (ad X 19) :: []) rfl ?_
          refine r_callVi (pc := 106) (k := 19) (As := [.int 2]) (st := []) C 1 (by decide) (ce19 _) rfl aw249 aw250 hM aw248 aw251 aw16 yd_X3_failed ⟨rfl, rfl⟩ ⟨Nat.le_of_ble_eq_true rfl, Nat.le_of_ble_eq_true rfl⟩ rfl (Nat.le_of_ble_eq_true rfl) dX3_readNumber_106 (fun r7 M6 h => ?_)
          refine r_pop (pc := 109) C dX3_readNumber_109 rfl ?_
          refine r_ldc (pc := 110) C aw257 dX3_readNumber_110 ?_
          exact r_iret (pc := 112) C dX3_readNumber_112 h
        · have h := h.2 c5
          refine r_iload (pc := 89) C 5 dX3_readNumber_89 rfl ?_
          refine r_iload_n (pc := 91) C 2 dX3_readNumber_91 rfl ?_
          refine r_icmp_gt (pc := 92) (tgt := 104) C dX3_readNumber_92 (by decide) (fun c8 => ?_) (fun c8 => ?_)
          · have h := h.1 c8
            refine r_aload_n (pc := 104) C 0 dX3_readNumber_104 rfl ?_
            refine r_iconst (pc := 105) (v := 2) C dX3_readNumber_105 (by decide) ?_
            have hM := c_X3_failed X  M 2 _ h
            refine q_s0 (s1 := List.reverse [.int 2] ++ .ref (ad X 19) :: []) rfl ?_
            refine r_callVi (pc := 106) (k := 19) (As := [.int 2]) (st := []) C 1 (by decide) (ce19 _) rfl aw249 aw250 hM aw248 aw251 aw16 yd_X3_failed ⟨rfl, rfl⟩ ⟨Nat.le_of_ble_eq_true rfl, Nat.le_of_ble_eq_true rfl⟩ rfl (Nat.le_of_ble_eq_true rfl) dX3_readNumber_106 (fun r10 M9 h => ?_)
            refine r_pop (pc := 109) C dX3_readNumber_109 rfl ?_
            refine r_ldc (pc := 110) C aw257 dX3_readNumber_110 ?_
            exact r_iret (pc := 112) C dX3_readNumber_112 h
          · have h := h.2 c8
            refine r_iload_n (pc := 95) C 3 dX3_readNumber_95 rfl ?_
            refine r_iload (pc := 96) C 5 dX3_readNumber_96 rfl ?_
            refine r_ishr (pc := 98) C dX3_readNumber_98 ?_
            refine r_iconst (pc := 99) (v := 1) C dX3_readNumber_99 (by decide) ?_
            refine r_iand (pc := 100) C dX3_readNumber_100 ?_
            refine r_if_eq (pc := 101) (tgt := 113) C dX3_readNumber_101 (by decide) (fun c11 => ?_) (fun c11 => ?_)
            · have h := h.1 c11
              refine r_aload_n (pc := 113) C 0 dX3_readNumber_113 rfl ?_
              refine r_dup (pc := 114) C dX3_readNumber_114 rfl ?_
              refine r_get (pc := 115) (k := 19) (j := 2) (Cn := RX3) (T := TX3) (N := 6) C (by decide) (ce19 _) rfl iaX3 (by decide) aw233 rfl rfl dX3_readNumber_115 ?_
              refine r_iload (pc := 118) C 4 dX3_readNumber_118 rfl ?_
              refine r_iadd (pc := 120) C dX3_readNumber_120 ?_
              refine r_topi (fun v12 ev12 => ?_)
              replace h := h v12 ev12
              refine r_put (pc := 121) (k := 19) (j := 2) (Cn := RX3) (T := TX3) (N := 6) (host := "") C (by decide) (ce19 _) rfl iaX3 (by decide) (ce19 _) tyX3_ok nmX3 aw233 rfl rfl (tyX3_ok 2 (by decide)) (Nat.le_of_ble_eq_true rfl) dX3_readNumber_121 ?_
              refine r_topM (fun M13 eM13 => ?_)
              replace h := h M13 eM13
              refine r_iload (pc := 124) C 5 dX3_readNumber_124 rfl ?_
              exact r_iret (pc := 126) C dX3_readNumber_126 h
            · have h := h.2 c11
              refine r_aload_n (pc := 104) C 0 dX3_readNumber_104 rfl ?_
              refine r_iconst (pc := 105) (v := 2) C dX3_readNumber_105 (by decide) ?_
              have hM := c_X3_failed X  M 2 _ h
              refine q_s0 (s1 := List.reverse [.int 2] ++ .ref (ad X 19) :: []) rfl ?_
              refine r_callVi (pc := 106) (k := 19) (As := [.int 2]) (st := []) C 1 (by decide) (ce19 _) rfl aw249 aw250 hM aw248 aw251 aw16 yd_X3_failed ⟨rfl, rfl⟩ ⟨Nat.le_of_ble_eq_true rfl, Nat.le_of_ble_eq_true rfl⟩ rfl (Nat.le_of_ble_eq_true rfl) dX3_readNumber_106 (fun r15 M14 h => ?_)
              refine r_pop (pc := 109) C dX3_readNumber_109 rfl ?_
              refine r_ldc (pc := 110) C aw257 dX3_readNumber_110 ?_
              exact r_iret (pc := 112) C dX3_readNumber_112 h
      · have h := h.2 c4
        refine r_aload_n (pc := 74) C 0 dX3_readNumber_74 rfl ?_
        refine r_iconst (pc := 75) (v := 1) C dX3_readNumber_75 (by decide) ?_
        have hM := c_X3_failed X  M 1 _ h
        refine q_s0 (s1 := List.reverse [.int 1] ++ .ref (ad X 19) :: []) rfl ?_
        refine r_callVi (pc := 76) (k := 19) (As := [.int 1]) (st := []) C 1 (by decide) (ce19 _) rfl aw249 aw250 hM aw248 aw251 aw16 yd_X3_failed ⟨rfl, rfl⟩ ⟨Nat.le_of_ble_eq_true rfl, Nat.le_of_ble_eq_true rfl⟩ rfl (Nat.le_of_ble_eq_true rfl) dX3_readNumber_76 (fun r17 M16 h => ?_)
        refine r_pop (pc := 79) C dX3_readNumber_79 rfl ?_
        refine r_ldc (pc := 80) C aw257 dX3_readNumber_80 ?_
        exact r_iret (pc := 82) C dX3_readNumber_82 h
  have hL9 : ∀  (n : Nat) (M : Mem) (x1 : Int32) (x2 : Int32) (x3 : Int32) (x4 : Int32) (x5 : Int32) (x6 : Int32), wL_X3_readNumber_9  Q  n M x1 x2 x3 x4 x5 x6 → WX K X 7 (Qi X Q) M 9 [(0, .ref (ad X 19)), (1, .int x1), (2, .int x2), (3, .int x3), (4, .int x4), (5, .int x5), (6, .int x6)] [] := by
    intro  n
    induction n with
    | zero => intro M x1 x2 x3 x4 x5 x6 h; exact absurd h id
    | succ n ih =>
      intro M x1 x2 x3 x4 x5 x6 h
      replace h := wL_X3_readNumber_9_s h
      unfold wB_X3_readNumber_9 at h
      refine r_iload (pc := 9) C 6 dX3_readNumber_9 rfl ?_
      refine r_iconst (pc := 11) (v := 3) C dX3_readNumber_11 (by decide) ?_
      refine r_icmp_ge (pc := 12) (tgt := 63) C dX3_readNumber_12 (by decide) (fun c1 => ?_) (fun c1 => ?_)
      · have h := h.1 c1
        refine r_sub (lv2 := [(0, .ref (ad X 19)), (1, .int x1), (2, .int x2), (3, .int x3), (4, .int x4), (5, .int x5)]) [0, 1, 2, 3, 4, 5] rfl ?_
        exact hJ63  _ _ _ _ _ _ h
      · have h := h.2 c1
        refine r_aload_n (pc := 15) C 0 dX3_readNumber_15 rfl ?_
        refine r_aload_n (pc := 16) C 0 dX3_readNumber_16 rfl ?_
        refine r_get (pc := 17) (k := 19) (j := 2) (Cn := RX3) (T := TX3) (N := 6) C (by decide) (ce19 _) rfl iaX3 (by decide) aw233 rfl rfl dX3_readNumber_17 ?_
        refine r_iload (pc := 20) C 6 dX3_readNumber_20 rfl ?_
        refine r_iadd (pc := 22) C dX3_readNumber_22 ?_
        have hM := c_X3_byteAt X  M ((M 19 2) + x6) _ h
        refine q_s0 (s1 := List.reverse [.int ((M 19 2) + x6)] ++ .ref (ad X 19) :: []) rfl ?_
        refine r_callVi (pc := 23) (k := 19) (As := [.int ((M 19 2) + x6)]) (st := []) C 1 (by decide) (ce19 _) rfl aw245 aw246 hM aw244 aw247 aw16 yd_X3_byteAt ⟨rfl, rfl⟩ ⟨Nat.le_of_ble_eq_true rfl, Nat.le_of_ble_eq_true rfl⟩ rfl (Nat.le_of_ble_eq_true rfl) dX3_readNumber_23 (fun r3 M2 h => ?_)
        have hM := c_X3_isFigure X  M2 r3 _ h
        refine q_s0 (s1 := List.reverse [.int r3] ++ []) rfl ?_
        refine r_callSi (pc := 26) (As := [.int r3]) (st := []) C 1 hM aw262 aw263 aw264 aw16 yd_X3_isFigure ⟨rfl, rfl⟩ ⟨Nat.le_of_ble_eq_true rfl, Nat.le_of_ble_eq_true rfl⟩ rfl (Nat.le_of_ble_eq_true rfl) dX3_readNumber_26 (fun r5 M4 h => ?_)
        refine r_if_eq (pc := 29) (tgt := 63) C dX3_readNumber_29 (by decide) (fun c6 => ?_) (fun c6 => ?_)
        · have h := h.1 c6
          refine r_sub (lv2 := [(0, .ref (ad X 19)), (1, .int x1), (2, .int x2), (3, .int x3), (4, .int x4), (5, .int x5)]) [0, 1, 2, 3, 4, 5] rfl ?_
          exact hJ63  _ _ _ _ _ _ h
        · have h := h.2 c6
          refine r_iload (pc := 32) C 5 dX3_readNumber_32 rfl ?_
          refine r_bipush (pc := 34) (v := 10) C dX3_readNumber_34 (by decide) ?_
          refine r_imul (pc := 36) C dX3_readNumber_36 ?_
          refine r_aload_n (pc := 37) C 0 dX3_readNumber_37 rfl ?_
          refine r_aload_n (pc := 38) C 0 dX3_readNumber_38 rfl ?_
          refine r_get (pc := 39) (k := 19) (j := 2) (Cn := RX3) (T := TX3) (N := 6) C (by decide) (ce19 _) rfl iaX3 (by decide) aw233 rfl rfl dX3_readNumber_39 ?_
          refine r_iload (pc := 42) C 6 dX3_readNumber_42 rfl ?_
          refine r_iadd (pc := 44) C dX3_readNumber_44 ?_
          have hM := c_X3_byteAt X  M4 ((M4 19 2) + x6) _ h
          refine q_s0 (s1 := List.reverse [.int ((M4 19 2) + x6)] ++ .ref (ad X 19) :: [.int (x5 * 10)]) rfl ?_
          refine r_callVi (pc := 45) (k := 19) (As := [.int ((M4 19 2) + x6)]) (st := [.int (x5 * 10)]) C 1 (by decide) (ce19 _) rfl aw245 aw246 hM aw244 aw247 aw16 yd_X3_byteAt ⟨rfl, rfl⟩ ⟨Nat.le_of_ble_eq_true rfl, Nat.le_of_ble_eq_true rfl⟩ rfl (Nat.le_of_ble_eq_true rfl) dX3_readNumber_45 (fun r8 M7 h => ?_)
          refine r_iadd (pc := 48) C dX3_readNumber_48 ?_
          refine r_bipush (pc := 49) (v := 48) C dX3_readNumber_49 (by decide) ?_
          refine r_isub (pc := 51) C dX3_readNumber_51 ?_
          refine r_topi (fun v9 ev9 => ?_)
          replace h := h v9 ev9
          refine r_istore (pc := 52) (lv2 := [(5, .int v9), (0, .ref (ad X 19)), (1, .int x1), (2, .int x2), (3, .int x3), (4, .int x4), (6, .int x6)]) C dX3_readNumber_52 (by decide) rfl ?_
          obtain ⟨v10, ev10⟩ : ∃ z : Int32, z = x4 + 1 := ⟨_, rfl⟩
          replace h := h v10 ev10
          refine r_iinc (pc := 54) (v := v10) (lv2 := [(4, .int v10), (5, .int v9), (0, .ref (ad X 19)), (1, .int x1), (2, .int x2), (3, .int x3), (6, .int x6)]) C 5 dX3_readNumber_54 rfl (by rw [ev10]; rfl) (by decide) rfl ?_
          obtain ⟨v11, ev11⟩ : ∃ z : Int32, z = x6 + 1 := ⟨_, rfl⟩
          replace h := h v11 ev11
          refine r_iinc (pc := 57) (v := v11) (lv2 := [(6, .int v11), (4, .int v10), (5, .int v9), (0, .ref (ad X 19)), (1, .int x1), (2, .int x2), (3, .int x3)]) C 6 dX3_readNumber_57 rfl (by rw [ev11]; rfl) (by decide) rfl ?_
          refine r_goto (pc := 60) (tgt := 9) C dX3_readNumber_60 (by decide) ?_
          refine r_sub (lv2 := [(0, .ref (ad X 19)), (1, .int x1), (2, .int x2), (3, .int x3), (4, .int v10), (5, .int v9), (6, .int v11)]) [3, 4, 5, 6, 1, 2, 0] rfl ?_
          exact ih _ _ _ _ _ _ _ h
  unfold w_X3_readNumber at h
  refine r_iconst (pc := 0) (v := 0) C dX3_readNumber_0 (by decide) ?_
  refine r_istore (pc := 1) (lv2 := [(4, .int 0), (0, .ref (ad X 19)), (1, .int x1), (2, .int x2), (3, .int x3)]) C dX3_readNumber_1 (by decide) rfl ?_
  refine r_iconst (pc := 3) (v := 0) C dX3_readNumber_3 (by decide) ?_
  refine r_istore (pc := 4) (lv2 := [(5, .int 0), (4, .int 0), (0, .ref (ad X 19)), (1, .int x1), (2, .int x2), (3, .int x3)]) C dX3_readNumber_4 (by decide) rfl ?_
  refine r_iconst (pc := 6) (v := 0) C dX3_readNumber_6 (by decide) ?_
  refine r_istore (pc := 7) (lv2 := [(6, .int 0), (5, .int 0), (4, .int 0), (0, .ref (ad X 19)), (1, .int x1), (2, .int x2), (3, .int x3)]) C dX3_readNumber_7 (by decide) rfl ?_
  obtain ⟨n1, h⟩ := h
  refine r_sub (lv2 := [(0, .ref (ad X 19)), (1, .int x1), (2, .int x2), (3, .int x3), (4, .int 0), (5, .int 0), (6, .int 0)]) [3, 4, 5, 6, 2, 1, 0] rfl ?_
  exact hL9  _ _ _ _ _ _ _ _ h
theorem yd_X3_readFirst : yX3_readFirst.cls ≠ "java/lang/invoke/MethodHandle" ∧ yX3_readFirst.cls ≠ "java/lang/invoke/VarHandle" ∧ (parseMethodDescriptor yX3_readFirst.desc).map (fun d => d.parameters.length) = some 2 := by decide +kernel
def w_X3_readFirst  (M : Mem) (x1 : Int32) (x2 : Int32) (Q : Int32 → Mem → Prop) : Prop :=
  w_X3_readNumber  M x1 x2 0 (fun r2 M1 => ∀ M3 : Mem, M3 = ms M1 19 4 r2 → ((((M3 19 4) = (-1000000)) → (Q 0 M3)) ∧ ((¬ (M3 19 4) = (-1000000)) → (w_X3_readSign  M3 44 (fun r6 M5 => ((r6 = 0) → (Q 0 M5)) ∧ ((¬ r6 = 0) → (Q 1 M5)))))))
abbrev rm_X3_readFirst : Room := { frames := 12, cells := 0, slots := 0, locals := 240 }
set_option maxHeartbeats 4000000 in
set_option maxRecDepth 100000 in
theorem c_X3_readFirst (X : Cx)  (M : Mem) (x1 : Int32) (x2 : Int32) (Q : Int32 → Mem → Prop) (h : w_X3_readFirst  M x1 x2 Q) : Ct yX3_readFirst cX3_readFirst 3 (some .boolean) rm_X3_readFirst X M [.ref (ad X 19), .int x1, .int x2] (Qi X Q) := by
  refine ct_of (own := RX3) (lv := [(0, .ref (ad X 19)), (1, .int x1), (2, .int x2)]) rfl (by decide) (Nat.le_of_ble_eq_true rfl) rfl ?_
  intro K C
  unfold w_X3_readFirst at h
  refine r_aload_n (pc := 0) C 0 dX3_readFirst_0 rfl ?_
  refine r_aload_n (pc := 1) C 0 dX3_readFirst_1 rfl ?_
  refine r_iload_n (pc := 2) C 1 dX3_readFirst_2 rfl ?_
  refine r_iload_n (pc := 3) C 2 dX3_readFirst_3 rfl ?_
  refine r_iconst (pc := 4) (v := 0) C dX3_readFirst_4 (by decide) ?_
  have hM := c_X3_readNumber X  M x1 x2 0 _ h
  refine q_s0 (s1 := List.reverse [.int x1, .int x2, .int 0] ++ .ref (ad X 19) :: [.ref (ad X 19)]) rfl ?_
  refine r_callVi (pc := 5) (k := 19) (As := [.int x1, .int x2, .int 0]) (st := [.ref (ad X 19)]) C 3 (by decide) (ce19 _) rfl aw259 aw260 hM aw258 aw261 aw16 yd_X3_readNumber ⟨rfl, rfl⟩ ⟨Nat.le_of_ble_eq_true rfl, Nat.le_of_ble_eq_true rfl⟩ rfl (Nat.le_of_ble_eq_true rfl) dX3_readFirst_5 (fun r2 M1 h => ?_)
  refine r_put (pc := 8) (k := 19) (j := 4) (Cn := RX3) (T := TX3) (N := 6) (host := "") C (by decide) (ce19 _) rfl iaX3 (by decide) (ce19 _) tyX3_ok nmX3 aw238 rfl rfl (tyX3_ok 4 (by decide)) (Nat.le_of_ble_eq_true rfl) dX3_readFirst_8 ?_
  refine r_topM (fun M3 eM3 => ?_)
  replace h := h M3 eM3
  refine r_aload_n (pc := 11) C 0 dX3_readFirst_11 rfl ?_
  refine r_get (pc := 12) (k := 19) (j := 4) (Cn := RX3) (T := TX3) (N := 6) C (by decide) (ce19 _) rfl iaX3 (by decide) aw238 rfl rfl dX3_readFirst_12 ?_
  refine r_ldc (pc := 15) C aw257 dX3_readFirst_15 ?_
  refine r_icmp_eq (pc := 17) (tgt := 33) C dX3_readFirst_17 (by decide) (fun c4 => ?_) (fun c4 => ?_)
  · have h := h.1 c4
    refine r_iconst (pc := 33) (v := 0) C dX3_readFirst_33 (by decide) ?_
    exact r_zret (pc := 34) C dX3_readFirst_34 (Or.inl rfl) h
  · have h := h.2 c4
    refine r_aload_n (pc := 20) C 0 dX3_readFirst_20 rfl ?_
    refine r_bipush (pc := 21) (v := 44) C dX3_readFirst_21 (by decide) ?_
    have hM := c_X3_readSign X  M3 44 _ h
    refine q_s0 (s1 := List.reverse [.int 44] ++ .ref (ad X 19) :: []) rfl ?_
    refine r_callVi (pc := 23) (k := 19) (As := [.int 44]) (st := []) C 1 (by decide) (ce19 _) rfl aw241 aw242 hM aw240 aw243 aw16 yd_X3_readSign ⟨rfl, rfl⟩ ⟨Nat.le_of_ble_eq_true rfl, Nat.le_of_ble_eq_true rfl⟩ rfl (Nat.le_of_ble_eq_true rfl) dX3_readFirst_23 (fun r6 M5 h => ?_)
    refine r_if_eq (pc := 26) (tgt := 33) C dX3_readFirst_26 (by decide) (fun c7 => ?_) (fun c7 => ?_)
    · have h := h.1 c7
      refine r_iconst (pc := 33) (v := 0) C dX3_readFirst_33 (by decide) ?_
      exact r_zret (pc := 34) C dX3_readFirst_34 (Or.inl rfl) h
    · have h := h.2 c7
      refine r_iconst (pc := 29) (v := 1) C dX3_readFirst_29 (by decide) ?_
      refine r_goto (pc := 30) (tgt := 34) C dX3_readFirst_30 (by decide) ?_
      exact r_zret (pc := 34) C dX3_readFirst_34 (Or.inr rfl) h
theorem yd_X3_readSecond : yX3_readSecond.cls ≠ "java/lang/invoke/MethodHandle" ∧ yX3_readSecond.cls ≠ "java/lang/invoke/VarHandle" ∧ (parseMethodDescriptor yX3_readSecond.desc).map (fun d => d.parameters.length) = some 2 := by decide +kernel
def w_X3_readSecond  (M : Mem) (x1 : Int32) (x2 : Int32) (Q : Int32 → Mem → Prop) : Prop :=
  w_X3_readNumber  M 0 x1 x2 (fun r2 M1 => ∀ M3 : Mem, M3 = ms M1 19 5 r2 → ((((M3 19 5) = (-1000000)) → (Q 0 M3)) ∧ ((¬ (M3 19 5) = (-1000000)) → (w_X3_readSign  M3 59 (fun r6 M5 => ((r6 = 0) → (Q 0 M5)) ∧ ((¬ r6 = 0) → (Q 1 M5)))))))
abbrev rm_X3_readSecond : Room := { frames := 12, cells := 0, slots := 0, locals := 240 }
set_option maxHeartbeats 4000000 in
set_option maxRecDepth 100000 in
theorem c_X3_readSecond (X : Cx)  (M : Mem) (x1 : Int32) (x2 : Int32) (Q : Int32 → Mem → Prop) (h : w_X3_readSecond  M x1 x2 Q) : Ct yX3_readSecond cX3_readSecond 3 (some .boolean) rm_X3_readSecond X M [.ref (ad X 19), .int x1, .int x2] (Qi X Q) := by
  refine ct_of (own := RX3) (lv := [(0, .ref (ad X 19)), (1, .int x1), (2, .int x2)]) rfl (by decide) (Nat.le_of_ble_eq_true rfl) rfl ?_
  intro K C
  unfold w_X3_readSecond at h
  refine r_aload_n (pc := 0) C 0 dX3_readSecond_0 rfl ?_
  refine r_aload_n (pc := 1) C 0 dX3_readSecond_1 rfl ?_
  refine r_iconst (pc := 2) (v := 0) C dX3_readSecond_2 (by decide) ?_
  refine r_iload_n (pc := 3) C 1 dX3_readSecond_3 rfl ?_
  refine r_iload_n (pc := 4) C 2 dX3_readSecond_4 rfl ?_
  have hM := c_X3_readNumber X  M 0 x1 x2 _ h
  refine q_s0 (s1 := List.reverse [.int 0, .int x1, .int x2] ++ .ref (ad X 19) :: [.ref (ad X 19)]) rfl ?_
  refine r_callVi (pc := 5) (k := 19) (As := [.int 0, .int x1, .int x2]) (st := [.ref (ad X 19)]) C 3 (by decide) (ce19 _) rfl aw259 aw260 hM aw258 aw261 aw16 yd_X3_readNumber ⟨rfl, rfl⟩ ⟨Nat.le_of_ble_eq_true rfl, Nat.le_of_ble_eq_true rfl⟩ rfl (Nat.le_of_ble_eq_true rfl) dX3_readSecond_5 (fun r2 M1 h => ?_)
  refine r_put (pc := 8) (k := 19) (j := 5) (Cn := RX3) (T := TX3) (N := 6) (host := "") C (by decide) (ce19 _) rfl iaX3 (by decide) (ce19 _) tyX3_ok nmX3 aw239 rfl rfl (tyX3_ok 5 (by decide)) (Nat.le_of_ble_eq_true rfl) dX3_readSecond_8 ?_
  refine r_topM (fun M3 eM3 => ?_)
  replace h := h M3 eM3
  refine r_aload_n (pc := 11) C 0 dX3_readSecond_11 rfl ?_
  refine r_get (pc := 12) (k := 19) (j := 5) (Cn := RX3) (T := TX3) (N := 6) C (by decide) (ce19 _) rfl iaX3 (by decide) aw239 rfl rfl dX3_readSecond_12 ?_
  refine r_ldc (pc := 15) C aw257 dX3_readSecond_15 ?_
  refine r_icmp_eq (pc := 17) (tgt := 33) C dX3_readSecond_17 (by decide) (fun c4 => ?_) (fun c4 => ?_)
  · have h := h.1 c4
    refine r_iconst (pc := 33) (v := 0) C dX3_readSecond_33 (by decide) ?_
    exact r_zret (pc := 34) C dX3_readSecond_34 (Or.inl rfl) h
  · have h := h.2 c4
    refine r_aload_n (pc := 20) C 0 dX3_readSecond_20 rfl ?_
    refine r_bipush (pc := 21) (v := 59) C dX3_readSecond_21 (by decide) ?_
    have hM := c_X3_readSign X  M3 59 _ h
    refine q_s0 (s1 := List.reverse [.int 59] ++ .ref (ad X 19) :: []) rfl ?_
    refine r_callVi (pc := 23) (k := 19) (As := [.int 59]) (st := []) C 1 (by decide) (ce19 _) rfl aw241 aw242 hM aw240 aw243 aw16 yd_X3_readSign ⟨rfl, rfl⟩ ⟨Nat.le_of_ble_eq_true rfl, Nat.le_of_ble_eq_true rfl⟩ rfl (Nat.le_of_ble_eq_true rfl) dX3_readSecond_23 (fun r6 M5 h => ?_)
    refine r_if_eq (pc := 26) (tgt := 33) C dX3_readSecond_26 (by decide) (fun c7 => ?_) (fun c7 => ?_)
    · have h := h.1 c7
      refine r_iconst (pc := 33) (v := 0) C dX3_readSecond_33 (by decide) ?_
      exact r_zret (pc := 34) C dX3_readSecond_34 (Or.inl rfl) h
    · have h := h.2 c7
      refine r_iconst (pc := 29) (v := 1) C dX3_readSecond_29 (by decide) ?_
      refine r_goto (pc := 30) (tgt := 34) C dX3_readSecond_30 (by decide) ?_
      exact r_zret (pc := 34) C dX3_readSecond_34 (Or.inr rfl) h
theorem yd_X3_readLaw : yX3_readLaw.cls ≠ "java/lang/invoke/MethodHandle" ∧ yX3_readLaw.cls ≠ "java/lang/invoke/VarHandle" ∧ (parseMethodDescriptor yX3_readLaw.desc).map (fun d => d.parameters.length) = some 1 := by decide +kernel
def w_X3_readLaw (k1 : Nat) (M : Mem)  (Q : Int32 → Mem → Prop) : Prop :=
  w_X3_readSign  M 104 (fun r2 M1 => ((r2 = 0) → (Q 0 M1)) ∧ ((¬ r2 = 0) → (w_X3_readFirst  M1 2 6 (fun r5 M4 => ((r5 = 0) → (Q 0 M4)) ∧ ((¬ r5 = 0) → (w_X3_readSecond  M4 9 0 (fun r8 M7 => ((¬ r8 = 0) → (w_X6_begin k1 M7 (M7 19 4) (M7 19 5) (fun M10 => Q 1 M10))) ∧ ((r8 = 0) → (Q 0 M7)))))))))
abbrev rm_X3_readLaw : Room := { frames := 15, cells := 0, slots := 0, locals := 300 }
set_option maxHeartbeats 4000000 in
set_option maxRecDepth 100000 in
theorem c_X3_readLaw (X : Cx) (k1 : Nat) (h1 : kd k1 = 6) (M : Mem)  (Q : Int32 → Mem → Prop) (h : w_X3_readLaw k1 M  Q) : Ct yX3_readLaw cX3_readLaw 2 (some .boolean) rm_X3_readLaw X M [.ref (ad X 19), .ref (ad X k1)] (Qi X Q) := by
  refine ct_of (own := RX3) (lv := [(0, .ref (ad X 19)), (1, .ref (ad X k1))]) rfl (by decide) (Nat.le_of_ble_eq_true rfl) rfl ?_
  intro K C
  unfold w_X3_readLaw at h
  refine r_aload_n (pc := 0) C 0 dX3_readLaw_0 rfl ?_
  refine r_bipush (pc := 1) (v := 104) C dX3_readLaw_1 (by decide) ?_
  have hM := c_X3_readSign X  M 104 _ h
  refine q_s0 (s1 := List.reverse [.int 104] ++ .ref (ad X 19) :: []) rfl ?_
  refine r_callVi (pc := 3) (k := 19) (As := [.int 104]) (st := []) C 1 (by decide) (ce19 _) rfl aw241 aw242 hM aw240 aw243 aw16 yd_X3_readSign ⟨rfl, rfl⟩ ⟨Nat.le_of_ble_eq_true rfl, Nat.le_of_ble_eq_true rfl⟩ rfl (Nat.le_of_ble_eq_true rfl) dX3_readLaw_3 (fun r2 M1 h => ?_)
  refine r_if_eq (pc := 6) (tgt := 29) C dX3_readLaw_6 (by decide) (fun c3 => ?_) (fun c3 => ?_)
  · have h := h.1 c3
    refine r_iconst (pc := 29) (v := 0) C dX3_readLaw_29 (by decide) ?_
    exact r_zret (pc := 30) C dX3_readLaw_30 (Or.inl rfl) h
  · have h := h.2 c3
    refine r_aload_n (pc := 9) C 0 dX3_readLaw_9 rfl ?_
    refine r_iconst (pc := 10) (v := 2) C dX3_readLaw_10 (by decide) ?_
    refine r_bipush (pc := 11) (v := 6) C dX3_readLaw_11 (by decide) ?_
    have hM := c_X3_readFirst X  M1 2 6 _ h
    refine q_s0 (s1 := List.reverse [.int 2, .int 6] ++ .ref (ad X 19) :: []) rfl ?_
    refine r_callVi (pc := 13) (k := 19) (As := [.int 2, .int 6]) (st := []) C 2 (by decide) (ce19 _) rfl aw254 aw255 hM aw253 aw256 aw16 yd_X3_readFirst ⟨rfl, rfl⟩ ⟨Nat.le_of_ble_eq_true rfl, Nat.le_of_ble_eq_true rfl⟩ rfl (Nat.le_of_ble_eq_true rfl) dX3_readLaw_13 (fun r5 M4 h => ?_)
    refine r_if_eq (pc := 16) (tgt := 29) C dX3_readLaw_16 (by decide) (fun c6 => ?_) (fun c6 => ?_)
    · have h := h.1 c6
      refine r_iconst (pc := 29) (v := 0) C dX3_readLaw_29 (by decide) ?_
      exact r_zret (pc := 30) C dX3_readLaw_30 (Or.inl rfl) h
    · have h := h.2 c6
      refine r_aload_n (pc := 19) C 0 dX3_readLaw_19 rfl ?_
      refine r_bipush (pc := 20) (v := 9) C dX3_readLaw_20 (by decide) ?_
      refine r_iconst (pc := 22) (v := 0) C dX3_readLaw_22 (by decide) ?_
      have hM := c_X3_readSecond X  M4 9 0 _ h
      refine q_s0 (s1 := List.reverse [.int 9, .int 0] ++ .ref (ad X 19) :: []) rfl ?_
      refine r_callVi (pc := 23) (k := 19) (As := [.int 9, .int 0]) (st := []) C 2 (by decide) (ce19 _) rfl aw266 aw267 hM aw265 aw268 aw16 yd_X3_readSecond ⟨rfl, rfl⟩ ⟨Nat.le_of_ble_eq_true rfl, Nat.le_of_ble_eq_true rfl⟩ rfl (Nat.le_of_ble_eq_true rfl) dX3_readLaw_23 (fun r8 M7 h => ?_)
      refine r_if_ne (pc := 26) (tgt := 31) C dX3_readLaw_26 (by decide) (fun c9 => ?_) (fun c9 => ?_)
      · have h := h.1 c9
        refine r_aload_n (pc := 31) C 1 dX3_readLaw_31 rfl ?_
        refine r_aload_n (pc := 32) C 0 dX3_readLaw_32 rfl ?_
        refine r_get (pc := 33) (k := 19) (j := 4) (Cn := RX3) (T := TX3) (N := 6) C (by decide) (ce19 _) rfl iaX3 (by decide) aw238 rfl rfl dX3_readLaw_33 ?_
        refine r_aload_n (pc := 36) C 0 dX3_readLaw_36 rfl ?_
        refine r_get (pc := 37) (k := 19) (j := 5) (Cn := RX3) (T := TX3) (N := 6) C (by decide) (ce19 _) rfl iaX3 (by decide) aw239 rfl rfl dX3_readLaw_37 ?_
        have hM := c_X6_begin X k1 h1 M7 (M7 19 4) (M7 19 5) _ h
        refine q_s0 (s1 := List.reverse [.int (M7 19 4), .int (M7 19 5)] ++ .ref (ad X k1) :: []) rfl ?_
        refine r_callVNv (pc := 40) (k := k1) (As := [.int (M7 19 4), .int (M7 19 5)]) (st := []) C 2 (bdT h1) (ceT h1 _) rfl aw269 aw270 hM nm16 aw271 aw28 yd_X6_begin ⟨rfl, rfl⟩ ⟨Nat.le_of_ble_eq_true rfl, Nat.le_of_ble_eq_true rfl⟩ rfl (Nat.le_of_ble_eq_true rfl) dX3_readLaw_40 (fun M10 h => ?_)
        refine r_iconst (pc := 43) (v := 1) C dX3_readLaw_43 (by decide) ?_
        exact r_zret (pc := 44) C dX3_readLaw_44 (Or.inr rfl) h
      · have h := h.2 c9
        refine r_iconst (pc := 29) (v := 0) C dX3_readLaw_29 (by decide) ?_
        exact r_zret (pc := 30) C dX3_readLaw_30 (Or.inl rfl) h
theorem yd_X3_readDoors : yX3_readDoors.cls ≠ "java/lang/invoke/MethodHandle" ∧ yX3_readDoors.cls ≠ "java/lang/invoke/VarHandle" ∧ (parseMethodDescriptor yX3_readDoors.desc).map (fun d => d.parameters.length) = some 1 := by decide +kernel
def wB_X3_readDoors_19 (k1 : Nat) (Q : Int32 → Mem → Prop)  (R19 : Mem → Prop) (M : Mem)  : Prop :=
  (((M 19 1) ≤ (M 19 2)) → (Q 1 M)) ∧ ((¬ (M 19 1) ≤ (M 19 2)) → (w_X3_byteAt  M (M 19 2) (fun r3 M2 => ((¬ r3 = 100) → (Q 1 M2)) ∧ ((r3 = 100) → (((¬ (M2 k1 2) = 6) → (∀ v6 : Int32, v6 = ((M2 19 2) + 1) → (∀ M7 : Mem, M7 = ms M2 19 2 v6 → (w_X3_readFirst  M7 0 ((M7 k1 0) - 1) (fun r9 M8 => ((r9 = 0) → (Q 0 M8)) ∧ ((¬ r9 = 0) → (w_X3_readSecond  M8 ((M8 k1 0) - 1) (1 <<< ((M8 19 4) &&& 31)) (fun r12 M11 => ((¬ r12 = 0) → (w_X6_addDoor k1 M11 (M11 19 4) (M11 19 5) (fun M14 => R19 M14 ))) ∧ ((r12 = 0) → (Q 0 M11)))))))))) ∧ (((M2 k1 2) = 6) → (w_X3_failed  M2 3 (fun r17 M16 => vz r17 ∧ Q r17 M16))))))))
def wL_X3_readDoors_19 (k1 : Nat) (Q : Int32 → Mem → Prop)  : Nat → Mem → Prop
  | 0 => fun _  => False
  | n + 1 => fun M  => wB_X3_readDoors_19 k1 Q  (wL_X3_readDoors_19 k1 Q  n) M 
theorem wL_X3_readDoors_19_s {k1 : Nat} {Q : Int32 → Mem → Prop}  {n : Nat} {M : Mem}  (h : wL_X3_readDoors_19 k1 Q  (n + 1) M ) : wB_X3_readDoors_19 k1 Q  (wL_X3_readDoors_19 k1 Q  n) M  := h
def w_X3_readDoors (k1 : Nat) (M : Mem)  (Q : Int32 → Mem → Prop) : Prop :=
  w_X3_byteAt  M (M 19 2) (fun r2 M1 => ((r2 = 100) → (∃ n4 : Nat, wL_X3_readDoors_19 k1 Q  n4 M1 )) ∧ ((¬ r2 = 100) → (w_X3_failed  M1 1 (fun r6 M5 => vz r6 ∧ Q r6 M5))))
abbrev rm_X3_readDoors : Room := { frames := 15, cells := 0, slots := 0, locals := 300 }
set_option maxHeartbeats 4000000 in
set_option maxRecDepth 100000 in
theorem c_X3_readDoors (X : Cx) (k1 : Nat) (h1 : kd k1 = 6) (M : Mem)  (Q : Int32 → Mem → Prop) (h : w_X3_readDoors k1 M  Q) : Ct yX3_readDoors cX3_readDoors 2 (some .boolean) rm_X3_readDoors X M [.ref (ad X 19), .ref (ad X k1)] (Qi X Q) := by
  refine ct_of (own := RX3) (lv := [(0, .ref (ad X 19)), (1, .ref (ad X k1))]) rfl (by decide) (Nat.le_of_ble_eq_true rfl) rfl ?_
  intro K C
  have hL19 : ∀  (n : Nat) (M : Mem) , wL_X3_readDoors_19 k1 Q  n M  → WX K X 2 (Qi X Q) M 19 [(0, .ref (ad X 19)), (1, .ref (ad X k1))] [] := by
    intro  n
    induction n with
    | zero => intro M  h; exact absurd h id
    | succ n ih =>
      intro M  h
      replace h := wL_X3_readDoors_19_s h
      unfold wB_X3_readDoors_19 at h
      refine r_aload_n (pc := 19) C 0 dX3_readDoors_19 rfl ?_
      refine r_get (pc := 20) (k := 19) (j := 2) (Cn := RX3) (T := TX3) (N := 6) C (by decide) (ce19 _) rfl iaX3 (by decide) aw233 rfl rfl dX3_readDoors_20 ?_
      refine r_aload_n (pc := 23) C 0 dX3_readDoors_23 rfl ?_
      refine r_get (pc := 24) (k := 19) (j := 1) (Cn := RX3) (T := TX3) (N := 6) C (by decide) (ce19 _) rfl iaX3 (by decide) aw216 rfl rfl dX3_readDoors_24 ?_
      refine r_icmp_ge (pc := 27) (tgt := 118) C dX3_readDoors_27 (by decide) (fun c1 => ?_) (fun c1 => ?_)
      · have h := h.1 c1
        refine r_iconst (pc := 118) (v := 1) C dX3_readDoors_118 (by decide) ?_
        exact r_zret (pc := 119) C dX3_readDoors_119 (Or.inr rfl) h
      · have h := h.2 c1
        refine r_aload_n (pc := 30) C 0 dX3_readDoors_30 rfl ?_
        refine r_aload_n (pc := 31) C 0 dX3_readDoors_31 rfl ?_
        refine r_get (pc := 32) (k := 19) (j := 2) (Cn := RX3) (T := TX3) (N := 6) C (by decide) (ce19 _) rfl iaX3 (by decide) aw233 rfl rfl dX3_readDoors_32 ?_
        have hM := c_X3_byteAt X  M (M 19 2) _ h
        refine q_s0 (s1 := List.reverse [.int (M 19 2)] ++ .ref (ad X 19) :: []) rfl ?_
        refine r_callVi (pc := 35) (k := 19) (As := [.int (M 19 2)]) (st := []) C 1 (by decide) (ce19 _) rfl aw245 aw246 hM aw244 aw247 aw16 yd_X3_byteAt ⟨rfl, rfl⟩ ⟨Nat.le_of_ble_eq_true rfl, Nat.le_of_ble_eq_true rfl⟩ rfl (Nat.le_of_ble_eq_true rfl) dX3_readDoors_35 (fun r3 M2 h => ?_)
        refine r_bipush (pc := 38) (v := 100) C dX3_readDoors_38 (by decide) ?_
        refine r_icmp_ne (pc := 40) (tgt := 118) C dX3_readDoors_40 (by decide) (fun c4 => ?_) (fun c4 => ?_)
        · have h := h.1 c4
          refine r_iconst (pc := 118) (v := 1) C dX3_readDoors_118 (by decide) ?_
          exact r_zret (pc := 119) C dX3_readDoors_119 (Or.inr rfl) h
        · have h := h.2 c4
          refine r_aload_n (pc := 43) C 1 dX3_readDoors_43 rfl ?_
          refine r_getN (pc := 44) (k := k1) (j := 2) (Cn := RX6) (T := TX6) (N := 16) C (bdT h1) (ceT h1 _) rfl iaX6 (by decide) nf9 rfl rfl dX3_readDoors_44 ?_
          refine r_bipush (pc := 47) (v := 6) C dX3_readDoors_47 (by decide) ?_
          refine r_icmp_ne (pc := 49) (tgt := 58) C dX3_readDoors_49 (by decide) (fun c5 => ?_) (fun c5 => ?_)
          · have h := h.1 c5
            refine r_aload_n (pc := 58) C 0 dX3_readDoors_58 rfl ?_
            refine r_dup (pc := 59) C dX3_readDoors_59 rfl ?_
            refine r_get (pc := 60) (k := 19) (j := 2) (Cn := RX3) (T := TX3) (N := 6) C (by decide) (ce19 _) rfl iaX3 (by decide) aw233 rfl rfl dX3_readDoors_60 ?_
            refine r_iconst (pc := 63) (v := 1) C dX3_readDoors_63 (by decide) ?_
            refine r_iadd (pc := 64) C dX3_readDoors_64 ?_
            refine r_topi (fun v6 ev6 => ?_)
            replace h := h v6 ev6
            refine r_put (pc := 65) (k := 19) (j := 2) (Cn := RX3) (T := TX3) (N := 6) (host := "") C (by decide) (ce19 _) rfl iaX3 (by decide) (ce19 _) tyX3_ok nmX3 aw233 rfl rfl (tyX3_ok 2 (by decide)) (Nat.le_of_ble_eq_true rfl) dX3_readDoors_65 ?_
            refine r_topM (fun M7 eM7 => ?_)
            replace h := h M7 eM7
            refine r_aload_n (pc := 68) C 0 dX3_readDoors_68 rfl ?_
            refine r_iconst (pc := 69) (v := 0) C dX3_readDoors_69 (by decide) ?_
            refine r_aload_n (pc := 70) C 1 dX3_readDoors_70 rfl ?_
            refine r_getN (pc := 71) (k := k1) (j := 0) (Cn := RX6) (T := TX6) (N := 16) C (bdT h1) (ceT h1 _) rfl iaX6 (by decide) nf6 rfl rfl dX3_readDoors_71 ?_
            refine r_iconst (pc := 74) (v := 1) C dX3_readDoors_74 (by decide) ?_
            refine r_isub (pc := 75) C dX3_readDoors_75 ?_
            have hM := c_X3_readFirst X  M7 0 ((M7 k1 0) - 1) _ h
            refine q_s0 (s1 := List.reverse [.int 0, .int ((M7 k1 0) - 1)] ++ .ref (ad X 19) :: []) rfl ?_
            refine r_callVi (pc := 76) (k := 19) (As := [.int 0, .int ((M7 k1 0) - 1)]) (st := []) C 2 (by decide) (ce19 _) rfl aw254 aw255 hM aw253 aw256 aw16 yd_X3_readFirst ⟨rfl, rfl⟩ ⟨Nat.le_of_ble_eq_true rfl, Nat.le_of_ble_eq_true rfl⟩ rfl (Nat.le_of_ble_eq_true rfl) dX3_readDoors_76 (fun r9 M8 h => ?_)
            refine r_if_eq (pc := 79) (tgt := 101) C dX3_readDoors_79 (by decide) (fun c10 => ?_) (fun c10 => ?_)
            · have h := h.1 c10
              refine r_iconst (pc := 101) (v := 0) C dX3_readDoors_101 (by decide) ?_
              exact r_zret (pc := 102) C dX3_readDoors_102 (Or.inl rfl) h
            · have h := h.2 c10
              refine r_aload_n (pc := 82) C 0 dX3_readDoors_82 rfl ?_
              refine r_aload_n (pc := 83) C 1 dX3_readDoors_83 rfl ?_
              refine r_getN (pc := 84) (k := k1) (j := 0) (Cn := RX6) (T := TX6) (N := 16) C (bdT h1) (ceT h1 _) rfl iaX6 (by decide) nf6 rfl rfl dX3_readDoors_84 ?_
              refine r_iconst (pc := 87) (v := 1) C dX3_readDoors_87 (by decide) ?_
              refine r_isub (pc := 88) C dX3_readDoors_88 ?_
              refine r_iconst (pc := 89) (v := 1) C dX3_readDoors_89 (by decide) ?_
              refine r_aload_n (pc := 90) C 0 dX3_readDoors_90 rfl ?_
              refine r_get (pc := 91) (k := 19) (j := 4) (Cn := RX3) (T := TX3) (N := 6) C (by decide) (ce19 _) rfl iaX3 (by decide) aw238 rfl rfl dX3_readDoors_91 ?_
              refine r_ishl (pc := 94) C dX3_readDoors_94 ?_
              have hM := c_X3_readSecond X  M8 ((M8 k1 0) - 1) (1 <<< ((M8 19 4) &&& 31)) _ h
              refine q_s0 (s1 := List.reverse [.int ((M8 k1 0) - 1), .int (1 <<< ((M8 19 4) &&& 31))] ++ .ref (ad X 19) :: []) rfl ?_
              refine r_callVi (pc := 95) (k := 19) (As := [.int ((M8 k1 0) - 1), .int (1 <<< ((M8 19 4) &&& 31))]) (st := []) C 2 (by decide) (ce19 _) rfl aw266 aw267 hM aw265 aw268 aw16 yd_X3_readSecond ⟨rfl, rfl⟩ ⟨Nat.le_of_ble_eq_true rfl, Nat.le_of_ble_eq_true rfl⟩ rfl (Nat.le_of_ble_eq_true rfl) dX3_readDoors_95 (fun r12 M11 h => ?_)
              refine r_if_ne (pc := 98) (tgt := 103) C dX3_readDoors_98 (by decide) (fun c13 => ?_) (fun c13 => ?_)
              · have h := h.1 c13
                refine r_aload_n (pc := 103) C 1 dX3_readDoors_103 rfl ?_
                refine r_aload_n (pc := 104) C 0 dX3_readDoors_104 rfl ?_
                refine r_get (pc := 105) (k := 19) (j := 4) (Cn := RX3) (T := TX3) (N := 6) C (by decide) (ce19 _) rfl iaX3 (by decide) aw238 rfl rfl dX3_readDoors_105 ?_
                refine r_aload_n (pc := 108) C 0 dX3_readDoors_108 rfl ?_
                refine r_get (pc := 109) (k := 19) (j := 5) (Cn := RX3) (T := TX3) (N := 6) C (by decide) (ce19 _) rfl iaX3 (by decide) aw239 rfl rfl dX3_readDoors_109 ?_
                have hM := c_X6_addDoor X k1 h1 M11 (M11 19 4) (M11 19 5) _ h
                refine q_s0 (s1 := List.reverse [.int (M11 19 4), .int (M11 19 5)] ++ .ref (ad X k1) :: []) rfl ?_
                refine r_callVNv (pc := 112) (k := k1) (As := [.int (M11 19 4), .int (M11 19 5)]) (st := []) C 2 (bdT h1) (ceT h1 _) rfl aw282 aw283 hM nm17 aw284 aw28 yd_X6_addDoor ⟨rfl, rfl⟩ ⟨Nat.le_of_ble_eq_true rfl, Nat.le_of_ble_eq_true rfl⟩ rfl (Nat.le_of_ble_eq_true rfl) dX3_readDoors_112 (fun M14 h => ?_)
                refine r_goto (pc := 115) (tgt := 19) C dX3_readDoors_115 (by decide) ?_
                refine r_sub (lv2 := [(0, .ref (ad X 19)), (1, .ref (ad X k1))]) [0, 1] rfl ?_
                exact ih _  h
              · have h := h.2 c13
                refine r_iconst (pc := 101) (v := 0) C dX3_readDoors_101 (by decide) ?_
                exact r_zret (pc := 102) C dX3_readDoors_102 (Or.inl rfl) h
          · have h := h.2 c5
            refine r_aload_n (pc := 52) C 0 dX3_readDoors_52 rfl ?_
            refine r_iconst (pc := 53) (v := 3) C dX3_readDoors_53 (by decide) ?_
            have hM := c_X3_failed X  M2 3 _ h
            refine q_s0 (s1 := List.reverse [.int 3] ++ .ref (ad X 19) :: []) rfl ?_
            refine r_callVi (pc := 54) (k := 19) (As := [.int 3]) (st := []) C 1 (by decide) (ce19 _) rfl aw249 aw250 hM aw248 aw251 aw16 yd_X3_failed ⟨rfl, rfl⟩ ⟨Nat.le_of_ble_eq_true rfl, Nat.le_of_ble_eq_true rfl⟩ rfl (Nat.le_of_ble_eq_true rfl) dX3_readDoors_54 (fun r17 M16 h => ?_)
            exact r_zret (pc := 57) C dX3_readDoors_57 h.1 h.2
  unfold w_X3_readDoors at h
  refine r_aload_n (pc := 0) C 0 dX3_readDoors_0 rfl ?_
  refine r_aload_n (pc := 1) C 0 dX3_readDoors_1 rfl ?_
  refine r_get (pc := 2) (k := 19) (j := 2) (Cn := RX3) (T := TX3) (N := 6) C (by decide) (ce19 _) rfl iaX3 (by decide) aw233 rfl rfl dX3_readDoors_2 ?_
  have hM := c_X3_byteAt X  M (M 19 2) _ h
  refine q_s0 (s1 := List.reverse [.int (M 19 2)] ++ .ref (ad X 19) :: []) rfl ?_
  refine r_callVi (pc := 5) (k := 19) (As := [.int (M 19 2)]) (st := []) C 1 (by decide) (ce19 _) rfl aw245 aw246 hM aw244 aw247 aw16 yd_X3_byteAt ⟨rfl, rfl⟩ ⟨Nat.le_of_ble_eq_true rfl, Nat.le_of_ble_eq_true rfl⟩ rfl (Nat.le_of_ble_eq_true rfl) dX3_readDoors_5 (fun r2 M1 h => ?_)
  refine r_bipush (pc := 8) (v := 100) C dX3_readDoors_8 (by decide) ?_
  refine r_icmp_eq (pc := 10) (tgt := 19) C dX3_readDoors_10 (by decide) (fun c3 => ?_) (fun c3 => ?_)
  · have h := h.1 c3
    obtain ⟨n4, h⟩ := h
    refine r_sub (lv2 := [(0, .ref (ad X 19)), (1, .ref (ad X k1))]) [0, 1] rfl ?_
    exact hL19  _ _  h
  · have h := h.2 c3
    refine r_aload_n (pc := 13) C 0 dX3_readDoors_13 rfl ?_
    refine r_iconst (pc := 14) (v := 1) C dX3_readDoors_14 (by decide) ?_
    have hM := c_X3_failed X  M1 1 _ h
    refine q_s0 (s1 := List.reverse [.int 1] ++ .ref (ad X 19) :: []) rfl ?_
    refine r_callVi (pc := 15) (k := 19) (As := [.int 1]) (st := []) C 1 (by decide) (ce19 _) rfl aw249 aw250 hM aw248 aw251 aw16 yd_X3_failed ⟨rfl, rfl⟩ ⟨Nat.le_of_ble_eq_true rfl, Nat.le_of_ble_eq_true rfl⟩ rfl (Nat.le_of_ble_eq_true rfl) dX3_readDoors_15 (fun r6 M5 h => ?_)
    exact r_zret (pc := 18) C dX3_readDoors_18 h.1 h.2
theorem yd_X3_kindOf : yX3_kindOf.cls ≠ "java/lang/invoke/MethodHandle" ∧ yX3_kindOf.cls ≠ "java/lang/invoke/VarHandle" ∧ (parseMethodDescriptor yX3_kindOf.desc).map (fun d => d.parameters.length) = some 1 := by decide +kernel
def w_X3_kindOf  (M : Mem) (x0 : Int32) (Q : Int32 → Mem → Prop) : Prop :=
  (x0 = 102 → (Q 2 M)) ∧ (x0 = 103 → (Q (-1000000) M)) ∧ (x0 = 104 → (Q (-1000000) M)) ∧ (x0 = 105 → (Q (-1000000) M)) ∧ (x0 = 106 → (Q (-1000000) M)) ∧ (x0 = 107 → (Q 4 M)) ∧ (x0 = 108 → (Q (-1000000) M)) ∧ (x0 = 109 → (Q (-1000000) M)) ∧ (x0 = 110 → (Q 5 M)) ∧ (x0 = 111 → (Q (-1000000) M)) ∧ (x0 = 112 → (Q 1 M)) ∧ (x0 = 113 → (Q (-1000000) M)) ∧ (x0 = 114 → (Q (-1000000) M)) ∧ (x0 = 115 → (Q 3 M)) ∧ (¬ x0 = 102 → ¬ x0 = 103 → ¬ x0 = 104 → ¬ x0 = 105 → ¬ x0 = 106 → ¬ x0 = 107 → ¬ x0 = 108 → ¬ x0 = 109 → ¬ x0 = 110 → ¬ x0 = 111 → ¬ x0 = 112 → ¬ x0 = 113 → ¬ x0 = 114 → ¬ x0 = 115 → (Q (-1000000) M))
abbrev rm_X3_kindOf : Room := { frames := 3, cells := 0, slots := 0, locals := 60 }
set_option maxHeartbeats 4000000 in
set_option maxRecDepth 100000 in
theorem c_X3_kindOf (X : Cx)  (M : Mem) (x0 : Int32) (Q : Int32 → Mem → Prop) (h : w_X3_kindOf  M x0 Q) : Ct yX3_kindOf cX3_kindOf 1 (some .int) rm_X3_kindOf X M [.int x0] (Qi X Q) := by
  refine ct_of (own := RX3) (lv := [(0, .int x0)]) rfl (by decide) (Nat.le_of_ble_eq_true rfl) rfl ?_
  intro K C
  unfold w_X3_kindOf at h
  refine r_iload_n (pc := 0) C 0 dX3_kindOf_0 rfl ?_
  by_cases e1 : x0 = 102
  · have h := h.1 e1
    refine r_tabIn (pc := 1) (off := 73) (tgt := 74) C 102 e1 dX3_kindOf_1 (by decide) (by decide) (by decide) (by decide) ?_
    refine r_iconst (pc := 74) (v := 2) C dX3_kindOf_74 (by decide) ?_
    exact r_iret (pc := 75) C dX3_kindOf_75 h
  · skip
    by_cases e2 : x0 = 103
    · have h := h.2.1 e2
      refine r_tabIn (pc := 1) (off := 81) (tgt := 82) C 103 e2 dX3_kindOf_1 (by decide) (by decide) (by decide) (by decide) ?_
      refine r_ldc (pc := 82) C aw257 dX3_kindOf_82 ?_
      exact r_iret (pc := 84) C dX3_kindOf_84 h
    · skip
      by_cases e3 : x0 = 104
      · have h := h.2.2.1 e3
        refine r_tabIn (pc := 1) (off := 81) (tgt := 82) C 104 e3 dX3_kindOf_1 (by decide) (by decide) (by decide) (by decide) ?_
        refine r_ldc (pc := 82) C aw257 dX3_kindOf_82 ?_
        exact r_iret (pc := 84) C dX3_kindOf_84 h
      · skip
        by_cases e4 : x0 = 105
        · have h := h.2.2.2.1 e4
          refine r_tabIn (pc := 1) (off := 81) (tgt := 82) C 105 e4 dX3_kindOf_1 (by decide) (by decide) (by decide) (by decide) ?_
          refine r_ldc (pc := 82) C aw257 dX3_kindOf_82 ?_
          exact r_iret (pc := 84) C dX3_kindOf_84 h
        · skip
          by_cases e5 : x0 = 106
          · have h := h.2.2.2.2.1 e5
            refine r_tabIn (pc := 1) (off := 81) (tgt := 82) C 106 e5 dX3_kindOf_1 (by decide) (by decide) (by decide) (by decide) ?_
            refine r_ldc (pc := 82) C aw257 dX3_kindOf_82 ?_
            exact r_iret (pc := 84) C dX3_kindOf_84 h
          · skip
            by_cases e6 : x0 = 107
            · have h := h.2.2.2.2.2.1 e6
              refine r_tabIn (pc := 1) (off := 77) (tgt := 78) C 107 e6 dX3_kindOf_1 (by decide) (by decide) (by decide) (by decide) ?_
              refine r_iconst (pc := 78) (v := 4) C dX3_kindOf_78 (by decide) ?_
              exact r_iret (pc := 79) C dX3_kindOf_79 h
            · skip
              by_cases e7 : x0 = 108
              · have h := h.2.2.2.2.2.2.1 e7
                refine r_tabIn (pc := 1) (off := 81) (tgt := 82) C 108 e7 dX3_kindOf_1 (by decide) (by decide) (by decide) (by decide) ?_
                refine r_ldc (pc := 82) C aw257 dX3_kindOf_82 ?_
                exact r_iret (pc := 84) C dX3_kindOf_84 h
              · skip
                by_cases e8 : x0 = 109
                · have h := h.2.2.2.2.2.2.2.1 e8
                  refine r_tabIn (pc := 1) (off := 81) (tgt := 82) C 109 e8 dX3_kindOf_1 (by decide) (by decide) (by decide) (by decide) ?_
                  refine r_ldc (pc := 82) C aw257 dX3_kindOf_82 ?_
                  exact r_iret (pc := 84) C dX3_kindOf_84 h
                · skip
                  by_cases e9 : x0 = 110
                  · have h := h.2.2.2.2.2.2.2.2.1 e9
                    refine r_tabIn (pc := 1) (off := 79) (tgt := 80) C 110 e9 dX3_kindOf_1 (by decide) (by decide) (by decide) (by decide) ?_
                    refine r_iconst (pc := 80) (v := 5) C dX3_kindOf_80 (by decide) ?_
                    exact r_iret (pc := 81) C dX3_kindOf_81 h
                  · skip
                    by_cases e10 : x0 = 111
                    · have h := h.2.2.2.2.2.2.2.2.2.1 e10
                      refine r_tabIn (pc := 1) (off := 81) (tgt := 82) C 111 e10 dX3_kindOf_1 (by decide) (by decide) (by decide) (by decide) ?_
                      refine r_ldc (pc := 82) C aw257 dX3_kindOf_82 ?_
                      exact r_iret (pc := 84) C dX3_kindOf_84 h
                    · skip
                      by_cases e11 : x0 = 112
                      · have h := h.2.2.2.2.2.2.2.2.2.2.1 e11
                        refine r_tabIn (pc := 1) (off := 71) (tgt := 72) C 112 e11 dX3_kindOf_1 (by decide) (by decide) (by decide) (by decide) ?_
                        refine r_iconst (pc := 72) (v := 1) C dX3_kindOf_72 (by decide) ?_
                        exact r_iret (pc := 73) C dX3_kindOf_73 h
                      · skip
                        by_cases e12 : x0 = 113
                        · have h := h.2.2.2.2.2.2.2.2.2.2.2.1 e12
                          refine r_tabIn (pc := 1) (off := 81) (tgt := 82) C 113 e12 dX3_kindOf_1 (by decide) (by decide) (by decide) (by decide) ?_
                          refine r_ldc (pc := 82) C aw257 dX3_kindOf_82 ?_
                          exact r_iret (pc := 84) C dX3_kindOf_84 h
                        · skip
                          by_cases e13 : x0 = 114
                          · have h := h.2.2.2.2.2.2.2.2.2.2.2.2.1 e13
                            refine r_tabIn (pc := 1) (off := 81) (tgt := 82) C 114 e13 dX3_kindOf_1 (by decide) (by decide) (by decide) (by decide) ?_
                            refine r_ldc (pc := 82) C aw257 dX3_kindOf_82 ?_
                            exact r_iret (pc := 84) C dX3_kindOf_84 h
                          · skip
                            by_cases e14 : x0 = 115
                            · have h := h.2.2.2.2.2.2.2.2.2.2.2.2.2.1 e14
                              refine r_tabIn (pc := 1) (off := 75) (tgt := 76) C 115 e14 dX3_kindOf_1 (by decide) (by decide) (by decide) (by decide) ?_
                              refine r_iconst (pc := 76) (v := 3) C dX3_kindOf_76 (by decide) ?_
                              exact r_iret (pc := 77) C dX3_kindOf_77 h
                            · skip
                              have h := h.2.2.2.2.2.2.2.2.2.2.2.2.2.2 e1 e2 e3 e4 e5 e6 e7 e8 e9 e10 e11 e12 e13 e14
                              refine r_tabOut (pc := 1) (tgt := 82) C dX3_kindOf_1 (by have ke1 := ne_toInt (n := 102) e1 (by decide); have ke2 := ne_toInt (n := 103) e2 (by decide); have ke3 := ne_toInt (n := 104) e3 (by decide); have ke4 := ne_toInt (n := 105) e4 (by decide); have ke5 := ne_toInt (n := 106) e5 (by decide); have ke6 := ne_toInt (n := 107) e6 (by decide); have ke7 := ne_toInt (n := 108) e7 (by decide); have ke8 := ne_toInt (n := 109) e8 (by decide); have ke9 := ne_toInt (n := 110) e9 (by decide); have ke10 := ne_toInt (n := 111) e10 (by decide); have ke11 := ne_toInt (n := 112) e11 (by decide); have ke12 := ne_toInt (n := 113) e12 (by decide); have ke13 := ne_toInt (n := 114) e13 (by decide); have ke14 := ne_toInt (n := 115) e14 (by decide); omega) (by decide) ?_
                              refine r_ldc (pc := 82) C aw257 dX3_kindOf_82 ?_
                              exact r_iret (pc := 84) C dX3_kindOf_84 h
theorem yd_X3_readPeople : yX3_readPeople.cls ≠ "java/lang/invoke/MethodHandle" ∧ yX3_readPeople.cls ≠ "java/lang/invoke/VarHandle" ∧ (parseMethodDescriptor yX3_readPeople.desc).map (fun d => d.parameters.length) = some 1 := by decide +kernel
def wB_X3_readPeople_22 (k1 : Nat) (Q : Int32 → Mem → Prop)  (R22 : Mem → Prop) (M : Mem)  : Prop :=
  (((M 19 1) ≤ (M 19 2)) → (Q 1 M)) ∧ ((¬ (M 19 1) ≤ (M 19 2)) → (w_X3_byteAt  M (M 19 2) (fun r3 M2 => w_X3_kindOf  M2 r3 (fun r5 M4 => ((r5 = (-1000000)) → (Q 1 M4)) ∧ ((¬ r5 = (-1000000)) → (((¬ (M4 k1 3) = 6) → (w_X3_byteAt  M4 (M4 19 2) (fun r9 M8 => w_X3_kindOf  M8 r9 (fun r11 M10 => ∀ v12 : Int32, v12 = ((M10 19 2) + 1) → (∀ M13 : Mem, M13 = ms M10 19 2 v12 → (w_X3_readFirst  M13 0 ((M13 k1 0) - 1) (fun r15 M14 => ((r15 = 0) → (Q 0 M14)) ∧ ((¬ r15 = 0) → (w_X3_readSecond  M14 6 0 (fun r18 M17 => ((¬ r18 = 0) → (w_X6_addPerson k1 M17 r11 (M17 19 4) (M17 19 5) (fun M20 => R22 M20 ))) ∧ ((r18 = 0) → (Q 0 M17)))))))))))) ∧ (((M4 k1 3) = 6) → (w_X3_failed  M4 3 (fun r23 M22 => vz r23 ∧ Q r23 M22)))))))))
def wL_X3_readPeople_22 (k1 : Nat) (Q : Int32 → Mem → Prop)  : Nat → Mem → Prop
  | 0 => fun _  => False
  | n + 1 => fun M  => wB_X3_readPeople_22 k1 Q  (wL_X3_readPeople_22 k1 Q  n) M 
theorem wL_X3_readPeople_22_s {k1 : Nat} {Q : Int32 → Mem → Prop}  {n : Nat} {M : Mem}  (h : wL_X3_readPeople_22 k1 Q  (n + 1) M ) : wB_X3_readPeople_22 k1 Q  (wL_X3_readPeople_22 k1 Q  n) M  := h
def w_X3_readPeople (k1 : Nat) (M : Mem)  (Q : Int32 → Mem → Prop) : Prop :=
  w_X3_byteAt  M (M 19 2) (fun r2 M1 => w_X3_kindOf  M1 r2 (fun r4 M3 => ((¬ r4 = (-1000000)) → (∃ n6 : Nat, wL_X3_readPeople_22 k1 Q  n6 M3 )) ∧ ((r4 = (-1000000)) → (w_X3_failed  M3 1 (fun r8 M7 => vz r8 ∧ Q r8 M7)))))
abbrev rm_X3_readPeople : Room := { frames := 15, cells := 0, slots := 0, locals := 300 }
set_option maxHeartbeats 4000000 in
set_option maxRecDepth 100000 in
theorem c_X3_readPeople (X : Cx) (k1 : Nat) (h1 : kd k1 = 6) (M : Mem)  (Q : Int32 → Mem → Prop) (h : w_X3_readPeople k1 M  Q) : Ct yX3_readPeople cX3_readPeople 3 (some .boolean) rm_X3_readPeople X M [.ref (ad X 19), .ref (ad X k1)] (Qi X Q) := by
  refine ct_of (own := RX3) (lv := [(0, .ref (ad X 19)), (1, .ref (ad X k1))]) rfl (by decide) (Nat.le_of_ble_eq_true rfl) rfl ?_
  intro K C
  have hL22 : ∀  (n : Nat) (M : Mem) , wL_X3_readPeople_22 k1 Q  n M  → WX K X 3 (Qi X Q) M 22 [(0, .ref (ad X 19)), (1, .ref (ad X k1))] [] := by
    intro  n
    induction n with
    | zero => intro M  h; exact absurd h id
    | succ n ih =>
      intro M  h
      replace h := wL_X3_readPeople_22_s h
      unfold wB_X3_readPeople_22 at h
      refine r_aload_n (pc := 22) C 0 dX3_readPeople_22 rfl ?_
      refine r_get (pc := 23) (k := 19) (j := 2) (Cn := RX3) (T := TX3) (N := 6) C (by decide) (ce19 _) rfl iaX3 (by decide) aw233 rfl rfl dX3_readPeople_23 ?_
      refine r_aload_n (pc := 26) C 0 dX3_readPeople_26 rfl ?_
      refine r_get (pc := 27) (k := 19) (j := 1) (Cn := RX3) (T := TX3) (N := 6) C (by decide) (ce19 _) rfl iaX3 (by decide) aw216 rfl rfl dX3_readPeople_27 ?_
      refine r_icmp_ge (pc := 30) (tgt := 128) C dX3_readPeople_30 (by decide) (fun c1 => ?_) (fun c1 => ?_)
      · have h := h.1 c1
        refine r_iconst (pc := 128) (v := 1) C dX3_readPeople_128 (by decide) ?_
        exact r_zret (pc := 129) C dX3_readPeople_129 (Or.inr rfl) h
      · have h := h.2 c1
        refine r_aload_n (pc := 33) C 0 dX3_readPeople_33 rfl ?_
        refine r_aload_n (pc := 34) C 0 dX3_readPeople_34 rfl ?_
        refine r_get (pc := 35) (k := 19) (j := 2) (Cn := RX3) (T := TX3) (N := 6) C (by decide) (ce19 _) rfl iaX3 (by decide) aw233 rfl rfl dX3_readPeople_35 ?_
        have hM := c_X3_byteAt X  M (M 19 2) _ h
        refine q_s0 (s1 := List.reverse [.int (M 19 2)] ++ .ref (ad X 19) :: []) rfl ?_
        refine r_callVi (pc := 38) (k := 19) (As := [.int (M 19 2)]) (st := []) C 1 (by decide) (ce19 _) rfl aw245 aw246 hM aw244 aw247 aw16 yd_X3_byteAt ⟨rfl, rfl⟩ ⟨Nat.le_of_ble_eq_true rfl, Nat.le_of_ble_eq_true rfl⟩ rfl (Nat.le_of_ble_eq_true rfl) dX3_readPeople_38 (fun r3 M2 h => ?_)
        have hM := c_X3_kindOf X  M2 r3 _ h
        refine q_s0 (s1 := List.reverse [.int r3] ++ []) rfl ?_
        refine r_callSi (pc := 41) (As := [.int r3]) (st := []) C 1 hM aw293 aw294 aw295 aw16 yd_X3_kindOf ⟨rfl, rfl⟩ ⟨Nat.le_of_ble_eq_true rfl, Nat.le_of_ble_eq_true rfl⟩ rfl (Nat.le_of_ble_eq_true rfl) dX3_readPeople_41 (fun r5 M4 h => ?_)
        refine r_ldc (pc := 44) C aw257 dX3_readPeople_44 ?_
        refine r_icmp_eq (pc := 46) (tgt := 128) C dX3_readPeople_46 (by decide) (fun c6 => ?_) (fun c6 => ?_)
        · have h := h.1 c6
          refine r_iconst (pc := 128) (v := 1) C dX3_readPeople_128 (by decide) ?_
          exact r_zret (pc := 129) C dX3_readPeople_129 (Or.inr rfl) h
        · have h := h.2 c6
          refine r_aload_n (pc := 49) C 1 dX3_readPeople_49 rfl ?_
          refine r_getN (pc := 50) (k := k1) (j := 3) (Cn := RX6) (T := TX6) (N := 16) C (bdT h1) (ceT h1 _) rfl iaX6 (by decide) nf14 rfl rfl dX3_readPeople_50 ?_
          refine r_bipush (pc := 53) (v := 6) C dX3_readPeople_53 (by decide) ?_
          refine r_icmp_ne (pc := 55) (tgt := 64) C dX3_readPeople_55 (by decide) (fun c7 => ?_) (fun c7 => ?_)
          · have h := h.1 c7
            refine r_aload_n (pc := 64) C 0 dX3_readPeople_64 rfl ?_
            refine r_aload_n (pc := 65) C 0 dX3_readPeople_65 rfl ?_
            refine r_get (pc := 66) (k := 19) (j := 2) (Cn := RX3) (T := TX3) (N := 6) C (by decide) (ce19 _) rfl iaX3 (by decide) aw233 rfl rfl dX3_readPeople_66 ?_
            have hM := c_X3_byteAt X  M4 (M4 19 2) _ h
            refine q_s0 (s1 := List.reverse [.int (M4 19 2)] ++ .ref (ad X 19) :: []) rfl ?_
            refine r_callVi (pc := 69) (k := 19) (As := [.int (M4 19 2)]) (st := []) C 1 (by decide) (ce19 _) rfl aw245 aw246 hM aw244 aw247 aw16 yd_X3_byteAt ⟨rfl, rfl⟩ ⟨Nat.le_of_ble_eq_true rfl, Nat.le_of_ble_eq_true rfl⟩ rfl (Nat.le_of_ble_eq_true rfl) dX3_readPeople_69 (fun r9 M8 h => ?_)
            have hM := c_X3_kindOf X  M8 r9 _ h
            refine q_s0 (s1 := List.reverse [.int r9] ++ []) rfl ?_
            refine r_callSi (pc := 72) (As := [.int r9]) (st := []) C 1 hM aw293 aw294 aw295 aw16 yd_X3_kindOf ⟨rfl, rfl⟩ ⟨Nat.le_of_ble_eq_true rfl, Nat.le_of_ble_eq_true rfl⟩ rfl (Nat.le_of_ble_eq_true rfl) dX3_readPeople_72 (fun r11 M10 h => ?_)
            refine r_istore_n (pc := 75) (lv2 := [(2, .int r11), (0, .ref (ad X 19)), (1, .ref (ad X k1))]) C dX3_readPeople_75 (by decide) rfl ?_
            refine r_aload_n (pc := 76) C 1 dX3_readPeople_76 rfl ?_
            refine r_dup (pc := 77) C dX3_readPeople_77 rfl ?_
            refine r_get (pc := 78) (k := 19) (j := 2) (Cn := RX3) (T := TX3) (N := 6) C (by decide) (ce19 _) rfl iaX3 (by decide) aw233 rfl rfl dX3_readPeople_78 ?_
            refine r_iconst (pc := 81) (v := 1) C dX3_readPeople_81 (by decide) ?_
            refine r_iadd (pc := 82) C dX3_readPeople_82 ?_
            refine r_topi (fun v12 ev12 => ?_)
            replace h := h v12 ev12
            refine r_put (pc := 83) (k := 19) (j := 2) (Cn := RX3) (T := TX3) (N := 6) (host := "") C (by decide) (ce19 _) rfl iaX3 (by decide) (ce19 _) tyX3_ok nmX3 aw233 rfl rfl (tyX3_ok 2 (by decide)) (Nat.le_of_ble_eq_true rfl) dX3_readPeople_83 ?_
            refine r_topM (fun M13 eM13 => ?_)
            replace h := h M13 eM13
            refine r_aload_n (pc := 86) C 1 dX3_readPeople_86 rfl ?_
            refine r_iconst (pc := 87) (v := 0) C dX3_readPeople_87 (by decide) ?_
            refine r_aload_n (pc := 88) C 2 dX3_readPeople_88 rfl ?_
            refine r_getN (pc := 89) (k := k1) (j := 0) (Cn := RX6) (T := TX6) (N := 16) C (bdT h1) (ceT h1 _) rfl iaX6 (by decide) nf6 rfl rfl dX3_readPeople_89 ?_
            refine r_iconst (pc := 92) (v := 1) C dX3_readPeople_92 (by decide) ?_
            refine r_isub (pc := 93) C dX3_readPeople_93 ?_
            have hM := c_X3_readFirst X  M13 0 ((M13 k1 0) - 1) _ h
            refine q_s0 (s1 := List.reverse [.int 0, .int ((M13 k1 0) - 1)] ++ .ref (ad X 19) :: []) rfl ?_
            refine r_callVi (pc := 94) (k := 19) (As := [.int 0, .int ((M13 k1 0) - 1)]) (st := []) C 2 (by decide) (ce19 _) rfl aw254 aw255 hM aw253 aw256 aw16 yd_X3_readFirst ⟨rfl, rfl⟩ ⟨Nat.le_of_ble_eq_true rfl, Nat.le_of_ble_eq_true rfl⟩ rfl (Nat.le_of_ble_eq_true rfl) dX3_readPeople_94 (fun r15 M14 h => ?_)
            refine r_if_eq (pc := 97) (tgt := 110) C dX3_readPeople_97 (by decide) (fun c16 => ?_) (fun c16 => ?_)
            · have h := h.1 c16
              refine r_iconst (pc := 110) (v := 0) C dX3_readPeople_110 (by decide) ?_
              exact r_zret (pc := 111) C dX3_readPeople_111 (Or.inl rfl) h
            · have h := h.2 c16
              refine r_aload_n (pc := 100) C 1 dX3_readPeople_100 rfl ?_
              refine r_bipush (pc := 101) (v := 6) C dX3_readPeople_101 (by decide) ?_
              refine r_iconst (pc := 103) (v := 0) C dX3_readPeople_103 (by decide) ?_
              have hM := c_X3_readSecond X  M14 6 0 _ h
              refine q_s0 (s1 := List.reverse [.int 6, .int 0] ++ .ref (ad X 19) :: []) rfl ?_
              refine r_callVi (pc := 104) (k := 19) (As := [.int 6, .int 0]) (st := []) C 2 (by decide) (ce19 _) rfl aw266 aw267 hM aw265 aw268 aw16 yd_X3_readSecond ⟨rfl, rfl⟩ ⟨Nat.le_of_ble_eq_true rfl, Nat.le_of_ble_eq_true rfl⟩ rfl (Nat.le_of_ble_eq_true rfl) dX3_readPeople_104 (fun r18 M17 h => ?_)
              refine r_if_ne (pc := 107) (tgt := 112) C dX3_readPeople_107 (by decide) (fun c19 => ?_) (fun c19 => ?_)
              · have h := h.1 c19
                refine r_aload_n (pc := 112) C 2 dX3_readPeople_112 rfl ?_
                refine r_iload_n (pc := 113) C 0 dX3_readPeople_113 rfl ?_
                refine r_aload_n (pc := 114) C 1 dX3_readPeople_114 rfl ?_
                refine r_get (pc := 115) (k := 19) (j := 4) (Cn := RX3) (T := TX3) (N := 6) C (by decide) (ce19 _) rfl iaX3 (by decide) aw238 rfl rfl dX3_readPeople_115 ?_
                refine r_aload_n (pc := 118) C 1 dX3_readPeople_118 rfl ?_
                refine r_get (pc := 119) (k := 19) (j := 5) (Cn := RX3) (T := TX3) (N := 6) C (by decide) (ce19 _) rfl iaX3 (by decide) aw239 rfl rfl dX3_readPeople_119 ?_
                have hM := c_X6_addPerson X k1 h1 M17 r11 (M17 19 4) (M17 19 5) _ h
                refine q_s0 (s1 := List.reverse [.int r11, .int (M17 19 4), .int (M17 19 5)] ++ .ref (ad X k1) :: []) rfl ?_
                refine r_callVNv (pc := 122) (k := k1) (As := [.int r11, .int (M17 19 4), .int (M17 19 5)]) (st := []) C 3 (bdT h1) (ceT h1 _) rfl aw296 aw297 hM nm18 aw298 aw28 yd_X6_addPerson ⟨rfl, rfl⟩ ⟨Nat.le_of_ble_eq_true rfl, Nat.le_of_ble_eq_true rfl⟩ rfl (Nat.le_of_ble_eq_true rfl) dX3_readPeople_122 (fun M20 h => ?_)
                refine r_goto (pc := 125) (tgt := 22) C dX3_readPeople_125 (by decide) ?_
                refine r_sub (lv2 := [(0, .ref (ad X 19)), (1, .ref (ad X k1))]) [1, 2] rfl ?_
                exact ih _  h
              · have h := h.2 c19
                refine r_iconst (pc := 110) (v := 0) C dX3_readPeople_110 (by decide) ?_
                exact r_zret (pc := 111) C dX3_readPeople_111 (Or.inl rfl) h
          · have h := h.2 c7
            refine r_aload_n (pc := 58) C 0 dX3_readPeople_58 rfl ?_
            refine r_iconst (pc := 59) (v := 3) C dX3_readPeople_59 (by decide) ?_
            have hM := c_X3_failed X  M4 3 _ h
            refine q_s0 (s1 := List.reverse [.int 3] ++ .ref (ad X 19) :: []) rfl ?_
            refine r_callVi (pc := 60) (k := 19) (As := [.int 3]) (st := []) C 1 (by decide) (ce19 _) rfl aw249 aw250 hM aw248 aw251 aw16 yd_X3_failed ⟨rfl, rfl⟩ ⟨Nat.le_of_ble_eq_true rfl, Nat.le_of_ble_eq_true rfl⟩ rfl (Nat.le_of_ble_eq_true rfl) dX3_readPeople_60 (fun r23 M22 h => ?_)
            exact r_zret (pc := 63) C dX3_readPeople_63 h.1 h.2
  unfold w_X3_readPeople at h
  refine r_aload_n (pc := 0) C 0 dX3_readPeople_0 rfl ?_
  refine r_aload_n (pc := 1) C 0 dX3_readPeople_1 rfl ?_
  refine r_get (pc := 2) (k := 19) (j := 2) (Cn := RX3) (T := TX3) (N := 6) C (by decide) (ce19 _) rfl iaX3 (by decide) aw233 rfl rfl dX3_readPeople_2 ?_
  have hM := c_X3_byteAt X  M (M 19 2) _ h
  refine q_s0 (s1 := List.reverse [.int (M 19 2)] ++ .ref (ad X 19) :: []) rfl ?_
  refine r_callVi (pc := 5) (k := 19) (As := [.int (M 19 2)]) (st := []) C 1 (by decide) (ce19 _) rfl aw245 aw246 hM aw244 aw247 aw16 yd_X3_byteAt ⟨rfl, rfl⟩ ⟨Nat.le_of_ble_eq_true rfl, Nat.le_of_ble_eq_true rfl⟩ rfl (Nat.le_of_ble_eq_true rfl) dX3_readPeople_5 (fun r2 M1 h => ?_)
  have hM := c_X3_kindOf X  M1 r2 _ h
  refine q_s0 (s1 := List.reverse [.int r2] ++ []) rfl ?_
  refine r_callSi (pc := 8) (As := [.int r2]) (st := []) C 1 hM aw293 aw294 aw295 aw16 yd_X3_kindOf ⟨rfl, rfl⟩ ⟨Nat.le_of_ble_eq_true rfl, Nat.le_of_ble_eq_true rfl⟩ rfl (Nat.le_of_ble_eq_true rfl) dX3_readPeople_8 (fun r4 M3 h => ?_)
  refine r_ldc (pc := 11) C aw257 dX3_readPeople_11 ?_
  refine r_icmp_ne (pc := 13) (tgt := 22) C dX3_readPeople_13 (by decide) (fun c5 => ?_) (fun c5 => ?_)
  · have h := h.1 c5
    obtain ⟨n6, h⟩ := h
    refine r_sub (lv2 := [(0, .ref (ad X 19)), (1, .ref (ad X k1))]) [0, 1] rfl ?_
    exact hL22  _ _  h
  · have h := h.2 c5
    refine r_aload_n (pc := 16) C 0 dX3_readPeople_16 rfl ?_
    refine r_iconst (pc := 17) (v := 1) C dX3_readPeople_17 (by decide) ?_
    have hM := c_X3_failed X  M3 1 _ h
    refine q_s0 (s1 := List.reverse [.int 1] ++ .ref (ad X 19) :: []) rfl ?_
    refine r_callVi (pc := 18) (k := 19) (As := [.int 1]) (st := []) C 1 (by decide) (ce19 _) rfl aw249 aw250 hM aw248 aw251 aw16 yd_X3_failed ⟨rfl, rfl⟩ ⟨Nat.le_of_ble_eq_true rfl, Nat.le_of_ble_eq_true rfl⟩ rfl (Nat.le_of_ble_eq_true rfl) dX3_readPeople_18 (fun r8 M7 h => ?_)
    exact r_zret (pc := 21) C dX3_readPeople_21 h.1 h.2
theorem yd_X3_readTies : yX3_readTies.cls ≠ "java/lang/invoke/MethodHandle" ∧ yX3_readTies.cls ≠ "java/lang/invoke/VarHandle" ∧ (parseMethodDescriptor yX3_readTies.desc).map (fun d => d.parameters.length) = some 1 := by decide +kernel
def wJ_X3_readTies_38 (k1 : Nat) (Q : Int32 → Mem → Prop) (R0 : Mem → Prop) (M : Mem) (x2 : Int32) : Prop :=
  ((¬ (M k1 4) = 8) → (∀ v2 : Int32, v2 = ((M 19 2) + 1) → (∀ M3 : Mem, M3 = ms M 19 2 v2 → (w_X3_readFirst  M3 0 ((M3 k1 3) - 1) (fun r5 M4 => ((r5 = 0) → (Q 0 M4)) ∧ ((¬ r5 = 0) → (w_X6_tiedTo k1 M4 (M4 19 4) (fun r8 M7 => w_X3_readSecond  M7 ((M4 k1 3) - 1) ((1 <<< ((M4 19 4) &&& 31)) ||| r8) (fun r10 M9 => ((¬ r10 = 0) → (((¬ x2 = 105) → (w_X6_addTie k1 (k1 + 8) M9 (M9 19 4) (M9 19 5) (fun M13 => R0 M13 ))) ∧ ((x2 = 105) → (w_X6_addTie k1 (k1 + 7) M9 (M9 19 4) (M9 19 5) (fun M15 => R0 M15 ))))) ∧ ((r10 = 0) → (Q 0 M9))))))))))) ∧ (((M k1 4) = 8) → (w_X3_failed  M 3 (fun r18 M17 => vz r18 ∧ Q r18 M17)))
def wB_X3_readTies_0 (k1 : Nat) (Q : Int32 → Mem → Prop)  (R0 : Mem → Prop) (M : Mem)  : Prop :=
  (((M 19 1) ≤ (M 19 2)) → (Q 1 M)) ∧ ((¬ (M 19 1) ≤ (M 19 2)) → (w_X3_byteAt  M (M 19 2) (fun r3 M2 => ((r3 = 105) → (wJ_X3_readTies_38 k1 Q R0 M2 r3)) ∧ ((¬ r3 = 105) → (((r3 = 117) → (wJ_X3_readTies_38 k1 Q R0 M2 r3)) ∧ ((¬ r3 = 117) → (w_X3_failed  M2 1 (fun r7 M6 => vz r7 ∧ Q r7 M6))))))))
def wL_X3_readTies_0 (k1 : Nat) (Q : Int32 → Mem → Prop)  : Nat → Mem → Prop
  | 0 => fun _  => False
  | n + 1 => fun M  => wB_X3_readTies_0 k1 Q  (wL_X3_readTies_0 k1 Q  n) M 
theorem wL_X3_readTies_0_s {k1 : Nat} {Q : Int32 → Mem → Prop}  {n : Nat} {M : Mem}  (h : wL_X3_readTies_0 k1 Q  (n + 1) M ) : wB_X3_readTies_0 k1 Q  (wL_X3_readTies_0 k1 Q  n) M  := h
def w_X3_readTies (k1 : Nat) (M : Mem)  (Q : Int32 → Mem → Prop) : Prop :=
  ∃ n1 : Nat, wL_X3_readTies_0 k1 Q  n1 M 
abbrev rm_X3_readTies : Room := { frames := 15, cells := 0, slots := 0, locals := 300 }
set_option maxHeartbeats 4000000 in
set_option maxRecDepth 100000 in
theorem c_X3_readTies (X : Cx) (k1 : Nat) (h1 : kd k1 = 6) (M : Mem)  (Q : Int32 → Mem → Prop) (h : w_X3_readTies k1 M  Q) : Ct yX3_readTies cX3_readTies 3 (some .boolean) rm_X3_readTies X M [.ref (ad X 19), .ref (ad X k1)] (Qi X Q) := by
  refine ct_of (own := RX3) (lv := [(0, .ref (ad X 19)), (1, .ref (ad X k1))]) rfl (by decide) (Nat.le_of_ble_eq_true rfl) rfl ?_
  intro K C
  have hJ38 : ∀ (R0 : Mem → Prop) (hR0 : ∀ (M : Mem) , R0 M  → WX K X 3 (Qi X Q) M 0 [(0, .ref (ad X 19)), (1, .ref (ad X k1))] []) (M : Mem) (x2 : Int32), wJ_X3_readTies_38 k1 Q R0 M x2 → WX K X 3 (Qi X Q) M 38 [(0, .ref (ad X 19)), (1, .ref (ad X k1)), (2, .int x2)] [] := by
    intro R0 hR0 M x2 h
    unfold wJ_X3_readTies_38 at h
    refine r_aload_n (pc := 38) C 1 dX3_readTies_38 rfl ?_
    refine r_getN (pc := 39) (k := k1) (j := 4) (Cn := RX6) (T := TX6) (N := 16) C (bdT h1) (ceT h1 _) rfl iaX6 (by decide) nf16 rfl rfl dX3_readTies_39 ?_
    refine r_bipush (pc := 42) (v := 8) C dX3_readTies_42 (by decide) ?_
    refine r_icmp_ne (pc := 44) (tgt := 53) C dX3_readTies_44 (by decide) (fun c1 => ?_) (fun c1 => ?_)
    · have h := h.1 c1
      refine r_aload_n (pc := 53) C 0 dX3_readTies_53 rfl ?_
      refine r_dup (pc := 54) C dX3_readTies_54 rfl ?_
      refine r_get (pc := 55) (k := 19) (j := 2) (Cn := RX3) (T := TX3) (N := 6) C (by decide) (ce19 _) rfl iaX3 (by decide) aw233 rfl rfl dX3_readTies_55 ?_
      refine r_iconst (pc := 58) (v := 1) C dX3_readTies_58 (by decide) ?_
      refine r_iadd (pc := 59) C dX3_readTies_59 ?_
      refine r_topi (fun v2 ev2 => ?_)
      replace h := h v2 ev2
      refine r_put (pc := 60) (k := 19) (j := 2) (Cn := RX3) (T := TX3) (N := 6) (host := "") C (by decide) (ce19 _) rfl iaX3 (by decide) (ce19 _) tyX3_ok nmX3 aw233 rfl rfl (tyX3_ok 2 (by decide)) (Nat.le_of_ble_eq_true rfl) dX3_readTies_60 ?_
      refine r_topM (fun M3 eM3 => ?_)
      replace h := h M3 eM3
      refine r_aload_n (pc := 63) C 0 dX3_readTies_63 rfl ?_
      refine r_iconst (pc := 64) (v := 0) C dX3_readTies_64 (by decide) ?_
      refine r_aload_n (pc := 65) C 1 dX3_readTies_65 rfl ?_
      refine r_getN (pc := 66) (k := k1) (j := 3) (Cn := RX6) (T := TX6) (N := 16) C (bdT h1) (ceT h1 _) rfl iaX6 (by decide) nf14 rfl rfl dX3_readTies_66 ?_
      refine r_iconst (pc := 69) (v := 1) C dX3_readTies_69 (by decide) ?_
      refine r_isub (pc := 70) C dX3_readTies_70 ?_
      have hM := c_X3_readFirst X  M3 0 ((M3 k1 3) - 1) _ h
      refine q_s0 (s1 := List.reverse [.int 0, .int ((M3 k1 3) - 1)] ++ .ref (ad X 19) :: []) rfl ?_
      refine r_callVi (pc := 71) (k := 19) (As := [.int 0, .int ((M3 k1 3) - 1)]) (st := []) C 2 (by decide) (ce19 _) rfl aw254 aw255 hM aw253 aw256 aw16 yd_X3_readFirst ⟨rfl, rfl⟩ ⟨Nat.le_of_ble_eq_true rfl, Nat.le_of_ble_eq_true rfl⟩ rfl (Nat.le_of_ble_eq_true rfl) dX3_readTies_71 (fun r5 M4 h => ?_)
      refine r_if_eq (pc := 74) (tgt := 105) C dX3_readTies_74 (by decide) (fun c6 => ?_) (fun c6 => ?_)
      · have h := h.1 c6
        refine r_iconst (pc := 105) (v := 0) C dX3_readTies_105 (by decide) ?_
        exact r_zret (pc := 106) C dX3_readTies_106 (Or.inl rfl) h
      · have h := h.2 c6
        refine r_aload_n (pc := 77) C 0 dX3_readTies_77 rfl ?_
        refine r_aload_n (pc := 78) C 1 dX3_readTies_78 rfl ?_
        refine r_getN (pc := 79) (k := k1) (j := 3) (Cn := RX6) (T := TX6) (N := 16) C (bdT h1) (ceT h1 _) rfl iaX6 (by decide) nf14 rfl rfl dX3_readTies_79 ?_
        refine r_iconst (pc := 82) (v := 1) C dX3_readTies_82 (by decide) ?_
        refine r_isub (pc := 83) C dX3_readTies_83 ?_
        refine r_iconst (pc := 84) (v := 1) C dX3_readTies_84 (by decide) ?_
        refine r_aload_n (pc := 85) C 0 dX3_readTies_85 rfl ?_
        refine r_get (pc := 86) (k := 19) (j := 4) (Cn := RX3) (T := TX3) (N := 6) C (by decide) (ce19 _) rfl iaX3 (by decide) aw238 rfl rfl dX3_readTies_86 ?_
        refine r_ishl (pc := 89) C dX3_readTies_89 ?_
        refine r_aload_n (pc := 90) C 1 dX3_readTies_90 rfl ?_
        refine r_aload_n (pc := 91) C 0 dX3_readTies_91 rfl ?_
        refine r_get (pc := 92) (k := 19) (j := 4) (Cn := RX3) (T := TX3) (N := 6) C (by decide) (ce19 _) rfl iaX3 (by decide) aw238 rfl rfl dX3_readTies_92 ?_
        have hM := c_X6_tiedTo X k1 h1 M4 (M4 19 4) _ h
        refine q_s0 (s1 := List.reverse [.int (M4 19 4)] ++ .ref (ad X k1) :: [.int (1 <<< ((M4 19 4) &&& 31)), .int ((M4 k1 3) - 1), .ref (ad X 19)]) rfl ?_
        refine r_callVNi (pc := 95) (k := k1) (As := [.int (M4 19 4)]) (st := [.int (1 <<< ((M4 19 4) &&& 31)), .int ((M4 k1 3) - 1), .ref (ad X 19)]) C 1 (bdT h1) (ceT h1 _) rfl aw303 aw304 hM nm19 aw305 aw28 yd_X6_tiedTo ⟨rfl, rfl⟩ ⟨Nat.le_of_ble_eq_true rfl, Nat.le_of_ble_eq_true rfl⟩ rfl (Nat.le_of_ble_eq_true rfl) dX3_readTies_95 (fun r8 M7 h => ?_)
        refine r_ior (pc := 98) C dX3_readTies_98 ?_
        have hM := c_X3_readSecond X  M7 ((M4 k1 3) - 1) ((1 <<< ((M4 19 4) &&& 31)) ||| r8) _ h
        refine q_s0 (s1 := List.reverse [.int ((M4 k1 3) - 1), .int ((1 <<< ((M4 19 4) &&& 31)) ||| r8)] ++ .ref (ad X 19) :: []) rfl ?_
        refine r_callVi (pc := 99) (k := 19) (As := [.int ((M4 k1 3) - 1), .int ((1 <<< ((M4 19 4) &&& 31)) ||| r8)]) (st := []) C 2 (by decide) (ce19 _) rfl aw266 aw267 hM aw265 aw268 aw16 yd_X3_readSecond ⟨rfl, rfl⟩ ⟨Nat.le_of_ble_eq_true rfl, Nat.le_of_ble_eq_true rfl⟩ rfl (Nat.le_of_ble_eq_true rfl) dX3_readTies_99 (fun r10 M9 h => ?_)
        refine r_if_ne (pc := 102) (tgt := 107) C dX3_readTies_102 (by decide) (fun c11 => ?_) (fun c11 => ?_)
        · have h := h.1 c11
          refine r_aload_n (pc := 107) C 1 dX3_readTies_107 rfl ?_
          refine r_iload_n (pc := 108) C 2 dX3_readTies_108 rfl ?_
          refine r_bipush (pc := 109) (v := 105) C dX3_readTies_109 (by decide) ?_
          refine r_icmp_ne (pc := 111) (tgt := 121) C dX3_readTies_111 (by decide) (fun c12 => ?_) (fun c12 => ?_)
          · have h := h.1 c12
            refine r_aload_n (pc := 121) C 1 dX3_readTies_121 rfl ?_
            refine r_getN (pc := 122) (k := k1) (j := 13) (Cn := RX6) (T := TX6) (N := 16) C (bdT h1) (ceT h1 _) rfl iaX6 (by decide) nf33 rfl rfl dX3_readTies_122 ?_
            refine r_aload_n (pc := 125) C 0 dX3_readTies_125 rfl ?_
            refine r_get (pc := 126) (k := 19) (j := 4) (Cn := RX3) (T := TX3) (N := 6) C (by decide) (ce19 _) rfl iaX3 (by decide) aw238 rfl rfl dX3_readTies_126 ?_
            refine r_aload_n (pc := 129) C 0 dX3_readTies_129 rfl ?_
            refine r_get (pc := 130) (k := 19) (j := 5) (Cn := RX3) (T := TX3) (N := 6) C (by decide) (ce19 _) rfl iaX3 (by decide) aw239 rfl rfl dX3_readTies_130 ?_
            have hM := c_X6_addTie X k1 h1 (k1 + 8) (alT8 _ (bdT h1) h1).1 M9 (M9 19 4) (M9 19 5) _ h
            refine q_s0 (s1 := List.reverse [.ref (ad X (k1 + 8)), .int (M9 19 4), .int (M9 19 5)] ++ .ref (ad X k1) :: []) rfl ?_
            refine r_callVNv (pc := 133) (k := k1) (As := [.ref (ad X (k1 + 8)), .int (M9 19 4), .int (M9 19 5)]) (st := []) C 3 (bdT h1) (ceT h1 _) rfl aw306 aw307 hM nm20 aw308 aw28 yd_X6_addTie ⟨rfl, rfl⟩ ⟨Nat.le_of_ble_eq_true rfl, Nat.le_of_ble_eq_true rfl⟩ rfl (Nat.le_of_ble_eq_true rfl) dX3_readTies_133 (fun M13 h => ?_)
            refine r_goto (pc := 136) (tgt := 0) C dX3_readTies_136 (by decide) ?_
            refine r_sub (lv2 := [(0, .ref (ad X 19)), (1, .ref (ad X k1))]) [0, 1] rfl ?_
            exact hR0 _  h
          · have h := h.2 c12
            refine r_aload_n (pc := 114) C 1 dX3_readTies_114 rfl ?_
            refine r_getN (pc := 115) (k := k1) (j := 12) (Cn := RX6) (T := TX6) (N := 16) C (bdT h1) (ceT h1 _) rfl iaX6 (by decide) nf31 rfl rfl dX3_readTies_115 ?_
            refine r_goto (pc := 118) (tgt := 125) C dX3_readTies_118 (by decide) ?_
            refine r_aload_n (pc := 125) C 0 dX3_readTies_125 rfl ?_
            refine r_get (pc := 126) (k := 19) (j := 4) (Cn := RX3) (T := TX3) (N := 6) C (by decide) (ce19 _) rfl iaX3 (by decide) aw238 rfl rfl dX3_readTies_126 ?_
            refine r_aload_n (pc := 129) C 0 dX3_readTies_129 rfl ?_
            refine r_get (pc := 130) (k := 19) (j := 5) (Cn := RX3) (T := TX3) (N := 6) C (by decide) (ce19 _) rfl iaX3 (by decide) aw239 rfl rfl dX3_readTies_130 ?_
            have hM := c_X6_addTie X k1 h1 (k1 + 7) (alT7 _ (bdT h1) h1).1 M9 (M9 19 4) (M9 19 5) _ h
            refine q_s0 (s1 := List.reverse [.ref (ad X (k1 + 7)), .int (M9 19 4), .int (M9 19 5)] ++ .ref (ad X k1) :: []) rfl ?_
            refine r_callVNv (pc := 133) (k := k1) (As := [.ref (ad X (k1 + 7)), .int (M9 19 4), .int (M9 19 5)]) (st := []) C 3 (bdT h1) (ceT h1 _) rfl aw306 aw307 hM nm20 aw308 aw28 yd_X6_addTie ⟨rfl, rfl⟩ ⟨Nat.le_of_ble_eq_true rfl, Nat.le_of_ble_eq_true rfl⟩ rfl (Nat.le_of_ble_eq_true rfl) dX3_readTies_133 (fun M15 h => ?_)
            refine r_goto (pc := 136) (tgt := 0) C dX3_readTies_136 (by decide) ?_
            refine r_sub (lv2 := [(0, .ref (ad X 19)), (1, .ref (ad X k1))]) [0, 1] rfl ?_
            exact hR0 _  h
        · have h := h.2 c11
          refine r_iconst (pc := 105) (v := 0) C dX3_readTies_105 (by decide) ?_
          exact r_zret (pc := 106) C dX3_readTies_106 (Or.inl rfl) h
    · have h := h.2 c1
      refine r_aload_n (pc := 47) C 0 dX3_readTies_47 rfl ?_
      refine r_iconst (pc := 48) (v := 3) C dX3_readTies_48 (by decide) ?_
      have hM := c_X3_failed X  M 3 _ h
      refine q_s0 (s1 := List.reverse [.int 3] ++ .ref (ad X 19) :: []) rfl ?_
      refine r_callVi (pc := 49) (k := 19) (As := [.int 3]) (st := []) C 1 (by decide) (ce19 _) rfl aw249 aw250 hM aw248 aw251 aw16 yd_X3_failed ⟨rfl, rfl⟩ ⟨Nat.le_of_ble_eq_true rfl, Nat.le_of_ble_eq_true rfl⟩ rfl (Nat.le_of_ble_eq_true rfl) dX3_readTies_49 (fun r18 M17 h => ?_)
      exact r_zret (pc := 52) C dX3_readTies_52 h.1 h.2
  have hL0 : ∀  (n : Nat) (M : Mem) , wL_X3_readTies_0 k1 Q  n M  → WX K X 3 (Qi X Q) M 0 [(0, .ref (ad X 19)), (1, .ref (ad X k1))] [] := by
    intro  n
    induction n with
    | zero => intro M  h; exact absurd h id
    | succ n ih =>
      intro M  h
      replace h := wL_X3_readTies_0_s h
      unfold wB_X3_readTies_0 at h
      refine r_aload_n (pc := 0) C 0 dX3_readTies_0 rfl ?_
      refine r_get (pc := 1) (k := 19) (j := 2) (Cn := RX3) (T := TX3) (N := 6) C (by decide) (ce19 _) rfl iaX3 (by decide) aw233 rfl rfl dX3_readTies_1 ?_
      refine r_aload_n (pc := 4) C 0 dX3_readTies_4 rfl ?_
      refine r_get (pc := 5) (k := 19) (j := 1) (Cn := RX3) (T := TX3) (N := 6) C (by decide) (ce19 _) rfl iaX3 (by decide) aw216 rfl rfl dX3_readTies_5 ?_
      refine r_icmp_ge (pc := 8) (tgt := 139) C dX3_readTies_8 (by decide) (fun c1 => ?_) (fun c1 => ?_)
      · have h := h.1 c1
        refine r_iconst (pc := 139) (v := 1) C dX3_readTies_139 (by decide) ?_
        exact r_zret (pc := 140) C dX3_readTies_140 (Or.inr rfl) h
      · have h := h.2 c1
        refine r_aload_n (pc := 11) C 0 dX3_readTies_11 rfl ?_
        refine r_aload_n (pc := 12) C 0 dX3_readTies_12 rfl ?_
        refine r_get (pc := 13) (k := 19) (j := 2) (Cn := RX3) (T := TX3) (N := 6) C (by decide) (ce19 _) rfl iaX3 (by decide) aw233 rfl rfl dX3_readTies_13 ?_
        have hM := c_X3_byteAt X  M (M 19 2) _ h
        refine q_s0 (s1 := List.reverse [.int (M 19 2)] ++ .ref (ad X 19) :: []) rfl ?_
        refine r_callVi (pc := 16) (k := 19) (As := [.int (M 19 2)]) (st := []) C 1 (by decide) (ce19 _) rfl aw245 aw246 hM aw244 aw247 aw16 yd_X3_byteAt ⟨rfl, rfl⟩ ⟨Nat.le_of_ble_eq_true rfl, Nat.le_of_ble_eq_true rfl⟩ rfl (Nat.le_of_ble_eq_true rfl) dX3_readTies_16 (fun r3 M2 h => ?_)
        refine r_istore_n (pc := 19) (lv2 := [(2, .int r3), (0, .ref (ad X 19)), (1, .ref (ad X k1))]) C dX3_readTies_19 (by decide) rfl ?_
        refine r_iload_n (pc := 20) C 0 dX3_readTies_20 rfl ?_
        refine r_bipush (pc := 21) (v := 105) C dX3_readTies_21 (by decide) ?_
        refine r_icmp_eq (pc := 23) (tgt := 38) C dX3_readTies_23 (by decide) (fun c4 => ?_) (fun c4 => ?_)
        · have h := h.1 c4
          refine r_sub (lv2 := [(0, .ref (ad X 19)), (1, .ref (ad X k1)), (2, .int r3)]) [1, 2, 0] rfl ?_
          exact hJ38 _ ih _ _ h
        · have h := h.2 c4
          refine r_iload_n (pc := 26) C 0 dX3_readTies_26 rfl ?_
          refine r_bipush (pc := 27) (v := 117) C dX3_readTies_27 (by decide) ?_
          refine r_icmp_eq (pc := 29) (tgt := 38) C dX3_readTies_29 (by decide) (fun c5 => ?_) (fun c5 => ?_)
          · have h := h.1 c5
            refine r_sub (lv2 := [(0, .ref (ad X 19)), (1, .ref (ad X k1)), (2, .int r3)]) [1, 2, 0] rfl ?_
            exact hJ38 _ ih _ _ h
          · have h := h.2 c5
            refine r_aload_n (pc := 32) C 1 dX3_readTies_32 rfl ?_
            refine r_iconst (pc := 33) (v := 1) C dX3_readTies_33 (by decide) ?_
            have hM := c_X3_failed X  M2 1 _ h
            refine q_s0 (s1 := List.reverse [.int 1] ++ .ref (ad X 19) :: []) rfl ?_
            refine r_callVi (pc := 34) (k := 19) (As := [.int 1]) (st := []) C 1 (by decide) (ce19 _) rfl aw249 aw250 hM aw248 aw251 aw16 yd_X3_failed ⟨rfl, rfl⟩ ⟨Nat.le_of_ble_eq_true rfl, Nat.le_of_ble_eq_true rfl⟩ rfl (Nat.le_of_ble_eq_true rfl) dX3_readTies_34 (fun r7 M6 h => ?_)
            exact r_zret (pc := 37) C dX3_readTies_37 h.1 h.2
  unfold w_X3_readTies at h
  obtain ⟨n1, h⟩ := h
  refine r_sub (lv2 := [(0, .ref (ad X 19)), (1, .ref (ad X k1))]) [0, 1] rfl ?_
  exact hL0  _ _  h
theorem yd_X3_readInto : yX3_readInto.cls ≠ "java/lang/invoke/MethodHandle" ∧ yX3_readInto.cls ≠ "java/lang/invoke/VarHandle" ∧ (parseMethodDescriptor yX3_readInto.desc).map (fun d => d.parameters.length) = some 1 := by decide +kernel
def w_X3_readInto (k1 : Nat) (M : Mem)  (Q : Int32 → Mem → Prop) : Prop :=
  ∀ M1 : Mem, M1 = ms M 19 2 0 → (w_X3_readLaw k1 M1  (fun r3 M2 => ((r3 = 0) → (Q 0 M2)) ∧ ((¬ r3 = 0) → (w_X3_readDoors k1 M2  (fun r6 M5 => ((r6 = 0) → (Q 0 M5)) ∧ ((¬ r6 = 0) → (w_X3_readPeople k1 M5  (fun r9 M8 => ((r9 = 0) → (Q 0 M8)) ∧ ((¬ r9 = 0) → (w_X3_readTies k1 M8  (fun r12 M11 => ((r12 = 0) → (Q 0 M11)) ∧ ((¬ r12 = 0) → (Q 1 M11)))))))))))))
abbrev rm_X3_readInto : Room := { frames := 18, cells := 0, slots := 0, locals := 360 }
set_option maxHeartbeats 4000000 in
set_option maxRecDepth 100000 in
theorem c_X3_readInto (X : Cx) (k1 : Nat) (h1 : kd k1 = 6) (M : Mem)  (Q : Int32 → Mem → Prop) (h : w_X3_readInto k1 M  Q) : Ct yX3_readInto cX3_readInto 2 (some .boolean) rm_X3_readInto X M [.ref (ad X 19), .ref (ad X k1)] (Qi X Q) := by
  refine ct_of (own := RX3) (lv := [(0, .ref (ad X 19)), (1, .ref (ad X k1))]) rfl (by decide) (Nat.le_of_ble_eq_true rfl) rfl ?_
  intro K C
  unfold w_X3_readInto at h
  refine r_aload_n (pc := 0) C 0 dX3_readInto_0 rfl ?_
  refine r_iconst (pc := 1) (v := 0) C dX3_readInto_1 (by decide) ?_
  refine r_put (pc := 2) (k := 19) (j := 2) (Cn := RX3) (T := TX3) (N := 6) (host := "") C (by decide) (ce19 _) rfl iaX3 (by decide) (ce19 _) tyX3_ok nmX3 aw233 rfl rfl (tyX3_ok 2 (by decide)) (Nat.le_of_ble_eq_true rfl) dX3_readInto_2 ?_
  refine r_topM (fun M1 eM1 => ?_)
  replace h := h M1 eM1
  refine r_aload_n (pc := 5) C 0 dX3_readInto_5 rfl ?_
  refine r_aload_n (pc := 6) C 1 dX3_readInto_6 rfl ?_
  have hM := c_X3_readLaw X k1 h1 M1  _ h
  refine q_s0 (s1 := List.reverse [.ref (ad X k1)] ++ .ref (ad X 19) :: []) rfl ?_
  refine r_callVi (pc := 7) (k := 19) (As := [.ref (ad X k1)]) (st := []) C 1 (by decide) (ce19 _) rfl aw235 aw236 hM aw234 aw237 aw16 yd_X3_readLaw ⟨rfl, rfl⟩ ⟨Nat.le_of_ble_eq_true rfl, Nat.le_of_ble_eq_true rfl⟩ rfl (Nat.le_of_ble_eq_true rfl) dX3_readInto_7 (fun r3 M2 h => ?_)
  refine r_if_eq (pc := 10) (tgt := 41) C dX3_readInto_10 (by decide) (fun c4 => ?_) (fun c4 => ?_)
  · have h := h.1 c4
    refine r_iconst (pc := 41) (v := 0) C dX3_readInto_41 (by decide) ?_
    exact r_zret (pc := 42) C dX3_readInto_42 (Or.inl rfl) h
  · have h := h.2 c4
    refine r_aload_n (pc := 13) C 0 dX3_readInto_13 rfl ?_
    refine r_aload_n (pc := 14) C 1 dX3_readInto_14 rfl ?_
    have hM := c_X3_readDoors X k1 h1 M2  _ h
    refine q_s0 (s1 := List.reverse [.ref (ad X k1)] ++ .ref (ad X 19) :: []) rfl ?_
    refine r_callVi (pc := 15) (k := 19) (As := [.ref (ad X k1)]) (st := []) C 1 (by decide) (ce19 _) rfl aw279 aw280 hM aw278 aw281 aw16 yd_X3_readDoors ⟨rfl, rfl⟩ ⟨Nat.le_of_ble_eq_true rfl, Nat.le_of_ble_eq_true rfl⟩ rfl (Nat.le_of_ble_eq_true rfl) dX3_readInto_15 (fun r6 M5 h => ?_)
    refine r_if_eq (pc := 18) (tgt := 41) C dX3_readInto_18 (by decide) (fun c7 => ?_) (fun c7 => ?_)
    · have h := h.1 c7
      refine r_iconst (pc := 41) (v := 0) C dX3_readInto_41 (by decide) ?_
      exact r_zret (pc := 42) C dX3_readInto_42 (Or.inl rfl) h
    · have h := h.2 c7
      refine r_aload_n (pc := 21) C 0 dX3_readInto_21 rfl ?_
      refine r_aload_n (pc := 22) C 1 dX3_readInto_22 rfl ?_
      have hM := c_X3_readPeople X k1 h1 M5  _ h
      refine q_s0 (s1 := List.reverse [.ref (ad X k1)] ++ .ref (ad X 19) :: []) rfl ?_
      refine r_callVi (pc := 23) (k := 19) (As := [.ref (ad X k1)]) (st := []) C 1 (by decide) (ce19 _) rfl aw290 aw291 hM aw289 aw292 aw16 yd_X3_readPeople ⟨rfl, rfl⟩ ⟨Nat.le_of_ble_eq_true rfl, Nat.le_of_ble_eq_true rfl⟩ rfl (Nat.le_of_ble_eq_true rfl) dX3_readInto_23 (fun r9 M8 h => ?_)
      refine r_if_eq (pc := 26) (tgt := 41) C dX3_readInto_26 (by decide) (fun c10 => ?_) (fun c10 => ?_)
      · have h := h.1 c10
        refine r_iconst (pc := 41) (v := 0) C dX3_readInto_41 (by decide) ?_
        exact r_zret (pc := 42) C dX3_readInto_42 (Or.inl rfl) h
      · have h := h.2 c10
        refine r_aload_n (pc := 29) C 0 dX3_readInto_29 rfl ?_
        refine r_aload_n (pc := 30) C 1 dX3_readInto_30 rfl ?_
        have hM := c_X3_readTies X k1 h1 M8  _ h
        refine q_s0 (s1 := List.reverse [.ref (ad X k1)] ++ .ref (ad X 19) :: []) rfl ?_
        refine r_callVi (pc := 31) (k := 19) (As := [.ref (ad X k1)]) (st := []) C 1 (by decide) (ce19 _) rfl aw300 aw301 hM aw299 aw302 aw16 yd_X3_readTies ⟨rfl, rfl⟩ ⟨Nat.le_of_ble_eq_true rfl, Nat.le_of_ble_eq_true rfl⟩ rfl (Nat.le_of_ble_eq_true rfl) dX3_readInto_31 (fun r12 M11 h => ?_)
        refine r_if_eq (pc := 34) (tgt := 41) C dX3_readInto_34 (by decide) (fun c13 => ?_) (fun c13 => ?_)
        · have h := h.1 c13
          refine r_iconst (pc := 41) (v := 0) C dX3_readInto_41 (by decide) ?_
          exact r_zret (pc := 42) C dX3_readInto_42 (Or.inl rfl) h
        · have h := h.2 c13
          refine r_iconst (pc := 37) (v := 1) C dX3_readInto_37 (by decide) ?_
          refine r_goto (pc := 38) (tgt := 42) C dX3_readInto_38 (by decide) ?_
          exact r_zret (pc := 42) C dX3_readInto_42 (Or.inr rfl) h
theorem yd_X4_isMissing : yX4_isMissing.cls ≠ "java/lang/invoke/MethodHandle" ∧ yX4_isMissing.cls ≠ "java/lang/invoke/VarHandle" ∧ (parseMethodDescriptor yX4_isMissing.desc).map (fun d => d.parameters.length) = some 0 := by decide +kernel
def w_X4_isMissing (k0 : Nat) (M : Mem)  (Q : Int32 → Mem → Prop) : Prop :=
  ((¬ (M k0 1) = (-1)) → (Q 0 M)) ∧ (((M k0 1) = (-1)) → (Q 1 M))
abbrev rm_X4_isMissing : Room := { frames := 3, cells := 0, slots := 0, locals := 60 }
set_option maxHeartbeats 4000000 in
set_option maxRecDepth 100000 in
theorem c_X4_isMissing (X : Cx) (k0 : Nat) (h0 : kd k0 = 4) (M : Mem)  (Q : Int32 → Mem → Prop) (h : w_X4_isMissing k0 M  Q) : Ct yX4_isMissing cX4_isMissing 1 (some .boolean) rm_X4_isMissing X M [.ref (ad X k0)] (Qi X Q) := by
  refine ct_of (own := RX4) (lv := [(0, .ref (ad X k0))]) rfl (by decide) (Nat.le_of_ble_eq_true rfl) rfl ?_
  intro K C
  unfold w_X4_isMissing at h
  refine r_aload_n (pc := 0) C 0 dX4_isMissing_0 rfl ?_
  refine r_get (pc := 1) (k := k0) (j := 1) (Cn := RX4) (T := TX4) (N := 3) C (bdR h0) (ceR h0 _) rfl iaX4 (by decide) aw98 rfl rfl dX4_isMissing_1 ?_
  refine r_iconst (pc := 4) (v := (-1)) C dX4_isMissing_4 (by decide) ?_
  refine r_icmp_ne (pc := 5) (tgt := 12) C dX4_isMissing_5 (by decide) (fun c1 => ?_) (fun c1 => ?_)
  · have h := h.1 c1
    refine r_iconst (pc := 12) (v := 0) C dX4_isMissing_12 (by decide) ?_
    exact r_zret (pc := 13) C dX4_isMissing_13 (Or.inl rfl) h
  · have h := h.2 c1
    refine r_iconst (pc := 8) (v := 1) C dX4_isMissing_8 (by decide) ?_
    refine r_goto (pc := 9) (tgt := 13) C dX4_isMissing_9 (by decide) ?_
    exact r_zret (pc := 13) C dX4_isMissing_13 (Or.inr rfl) h
theorem yd_X4_begin : yX4_begin.cls ≠ "java/lang/invoke/MethodHandle" ∧ yX4_begin.cls ≠ "java/lang/invoke/VarHandle" ∧ (parseMethodDescriptor yX4_begin.desc).map (fun d => d.parameters.length) = some 2 := by decide +kernel
def w_X4_begin (k0 : Nat) (M : Mem) (x1 : Int32) (x2 : Int32) (Q : Mem → Prop) : Prop :=
  ∀ M1 : Mem, M1 = ms M k0 1 x1 → (∀ M2 : Mem, M2 = ms M1 k0 2 x2 → (w_J7_fill_53178 (k0 + 1) M2 0 (fun M3 => Q M3)))
abbrev rm_X4_begin : Room := { frames := 6, cells := 0, slots := 0, locals := 120 }
set_option maxHeartbeats 4000000 in
set_option maxRecDepth 100000 in
theorem c_X4_begin (X : Cx) (k0 : Nat) (h0 : kd k0 = 4) (M : Mem) (x1 : Int32) (x2 : Int32) (Q : Mem → Prop) (h : w_X4_begin k0 M x1 x2 Q) : Ct yX4_begin cX4_begin 3 none rm_X4_begin X M [.ref (ad X k0), .int x1, .int x2] (Qv X Q) := by
  refine ct_of (own := RX4) (lv := [(0, .ref (ad X k0)), (1, .int x1), (2, .int x2)]) rfl (by decide) (Nat.le_of_ble_eq_true rfl) rfl ?_
  intro K C
  unfold w_X4_begin at h
  refine r_aload_n (pc := 0) C 0 dX4_begin_0 rfl ?_
  refine r_iload_n (pc := 1) C 1 dX4_begin_1 rfl ?_
  refine r_put (pc := 2) (k := k0) (j := 1) (Cn := RX4) (T := TX4) (N := 3) (host := "") C (bdR h0) (ceR h0 _) rfl iaX4 (by decide) (ceR h0 _) tyX4_ok nmX4 aw98 rfl rfl (tyX4_ok 1 (by decide)) (Nat.le_of_ble_eq_true rfl) dX4_begin_2 ?_
  refine r_topM (fun M1 eM1 => ?_)
  replace h := h M1 eM1
  refine r_aload_n (pc := 5) C 0 dX4_begin_5 rfl ?_
  refine r_iload_n (pc := 6) C 2 dX4_begin_6 rfl ?_
  refine r_put (pc := 7) (k := k0) (j := 2) (Cn := RX4) (T := TX4) (N := 3) (host := "") C (bdR h0) (ceR h0 _) rfl iaX4 (by decide) (ceR h0 _) tyX4_ok nmX4 aw128 rfl rfl (tyX4_ok 2 (by decide)) (Nat.le_of_ble_eq_true rfl) dX4_begin_7 ?_
  refine r_topM (fun M2 eM2 => ?_)
  replace h := h M2 eM2
  refine r_aload_n (pc := 10) C 0 dX4_begin_10 rfl ?_
  refine r_get (pc := 11) (k := k0) (j := 0) (Cn := RX4) (T := TX4) (N := 3) C (bdR h0) (ceR h0 _) rfl iaX4 (by decide) aw97 rfl rfl dX4_begin_11 ?_
  refine r_iconst (pc := 14) (v := 0) C dX4_begin_14 (by decide) ?_
  have hM := c_J7_fill_53178 X (k0 + 1) (alR1 _ (bdR h0) h0).1 M2 0 _ h
  refine q_s0 (s1 := List.reverse [.ref (ad X (k0 + 1)), .int 0] ++ []) rfl ?_
  refine r_callSv (pc := 15) (As := [.ref (ad X (k0 + 1)), .int 0]) (st := []) C 2 hM aw129 aw130 aw132 aw131 yd_J7_fill_53178 ⟨rfl, rfl⟩ ⟨Nat.le_of_ble_eq_true rfl, Nat.le_of_ble_eq_true rfl⟩ rfl (Nat.le_of_ble_eq_true rfl) dX4_begin_15 (fun M3 h => ?_)
  exact r_vret (pc := 18) C dX4_begin_18 h
theorem yd_X4_end : yX4_end.cls ≠ "java/lang/invoke/MethodHandle" ∧ yX4_end.cls ≠ "java/lang/invoke/VarHandle" ∧ (parseMethodDescriptor yX4_end.desc).map (fun d => d.parameters.length) = some 0 := by decide +kernel
def w_X4_end (k0 : Nat) (M : Mem)  (Q : Int32 → Mem → Prop) : Prop :=
  ∀ M1 : Mem, M1 = ms M k0 1 (-1) → (Q (M1 k0 2) M1)
abbrev rm_X4_end : Room := { frames := 3, cells := 0, slots := 0, locals := 60 }
set_option maxHeartbeats 4000000 in
set_option maxRecDepth 100000 in
theorem c_X4_end (X : Cx) (k0 : Nat) (h0 : kd k0 = 4) (M : Mem)  (Q : Int32 → Mem → Prop) (h : w_X4_end k0 M  Q) : Ct yX4_end cX4_end 1 (some .int) rm_X4_end X M [.ref (ad X k0)] (Qi X Q) := by
  refine ct_of (own := RX4) (lv := [(0, .ref (ad X k0))]) rfl (by decide) (Nat.le_of_ble_eq_true rfl) rfl ?_
  intro K C
  unfold w_X4_end at h
  refine r_aload_n (pc := 0) C 0 dX4_end_0 rfl ?_
  refine r_iconst (pc := 1) (v := (-1)) C dX4_end_1 (by decide) ?_
  refine r_put (pc := 2) (k := k0) (j := 1) (Cn := RX4) (T := TX4) (N := 3) (host := "") C (bdR h0) (ceR h0 _) rfl iaX4 (by decide) (ceR h0 _) tyX4_ok nmX4 aw98 rfl rfl (tyX4_ok 1 (by decide)) (Nat.le_of_ble_eq_true rfl) dX4_end_2 ?_
  refine r_topM (fun M1 eM1 => ?_)
  replace h := h M1 eM1
  refine r_aload_n (pc := 5) C 0 dX4_end_5 rfl ?_
  refine r_get (pc := 6) (k := k0) (j := 2) (Cn := RX4) (T := TX4) (N := 3) C (bdR h0) (ceR h0 _) rfl iaX4 (by decide) aw128 rfl rfl dX4_end_6 ?_
  exact r_iret (pc := 9) C dX4_end_9 h
theorem yd_X4_findingOf : yX4_findingOf.cls ≠ "java/lang/invoke/MethodHandle" ∧ yX4_findingOf.cls ≠ "java/lang/invoke/VarHandle" ∧ (parseMethodDescriptor yX4_findingOf.desc).map (fun d => d.parameters.length) = some 2 := by decide +kernel
def w_X4_findingOf (k0 : Nat) (M : Mem) (x1 : Int32) (x2 : Int32) (Q : Int32 → Mem → Prop) : Prop :=
  w_X4_isMissing k0 M  (fun r2 M1 => ((r2 = 0) → (((x1 < 0) → (Q 2 M1)) ∧ ((¬ x1 < 0) → (((x2 < 0) → (Q 2 M1)) ∧ ((¬ x2 < 0) → ((((M1 k0 2) < x2) → (Q 2 M1)) ∧ ((¬ (M1 k0 2) < x2) → (((x1 ≤ ((M1 k0 2) - x2)) → (Q 0 M1)) ∧ ((¬ x1 ≤ ((M1 k0 2) - x2)) → (Q 2 M1)))))))))) ∧ ((¬ r2 = 0) → (Q 1 M1)))
abbrev rm_X4_findingOf : Room := { frames := 6, cells := 0, slots := 0, locals := 120 }
set_option maxHeartbeats 4000000 in
set_option maxRecDepth 100000 in
theorem c_X4_findingOf (X : Cx) (k0 : Nat) (h0 : kd k0 = 4) (M : Mem) (x1 : Int32) (x2 : Int32) (Q : Int32 → Mem → Prop) (h : w_X4_findingOf k0 M x1 x2 Q) : Ct yX4_findingOf cX4_findingOf 3 (some .int) rm_X4_findingOf X M [.ref (ad X k0), .int x1, .int x2] (Qi X Q) := by
  refine ct_of (own := RX4) (lv := [(0, .ref (ad X k0)), (1, .int x1), (2, .int x2)]) rfl (by decide) (Nat.le_of_ble_eq_true rfl) rfl ?_
  intro K C
  unfold w_X4_findingOf at h
  refine r_aload_n (pc := 0) C 0 dX4_findingOf_0 rfl ?_
  have hM := c_X4_isMissing X k0 h0 M  _ h
  refine q_s0 (s1 := List.reverse [] ++ .ref (ad X k0) :: []) rfl ?_
  refine r_callVi (pc := 1) (k := k0) (As := []) (st := []) C 0 (bdR h0) (ceR h0 _) rfl aw168 aw169 hM aw167 aw170 aw45 yd_X4_isMissing ⟨rfl, rfl⟩ ⟨Nat.le_of_ble_eq_true rfl, Nat.le_of_ble_eq_true rfl⟩ rfl (Nat.le_of_ble_eq_true rfl) dX4_findingOf_1 (fun r2 M1 h => ?_)
  refine r_if_eq (pc := 4) (tgt := 9) C dX4_findingOf_4 (by decide) (fun c3 => ?_) (fun c3 => ?_)
  · have h := h.1 c3
    refine r_iload_n (pc := 9) C 1 dX4_findingOf_9 rfl ?_
    refine r_if_lt (pc := 10) (tgt := 35) C dX4_findingOf_10 (by decide) (fun c4 => ?_) (fun c4 => ?_)
    · have h := h.1 c4
      refine r_iconst (pc := 35) (v := 2) C dX4_findingOf_35 (by decide) ?_
      refine r_goto (pc := 36) (tgt := 40) C dX4_findingOf_36 (by decide) ?_
      exact r_iret (pc := 40) C dX4_findingOf_40 h
    · have h := h.2 c4
      refine r_iload_n (pc := 13) C 2 dX4_findingOf_13 rfl ?_
      refine r_if_lt (pc := 14) (tgt := 35) C dX4_findingOf_14 (by decide) (fun c5 => ?_) (fun c5 => ?_)
      · have h := h.1 c5
        refine r_iconst (pc := 35) (v := 2) C dX4_findingOf_35 (by decide) ?_
        refine r_goto (pc := 36) (tgt := 40) C dX4_findingOf_36 (by decide) ?_
        exact r_iret (pc := 40) C dX4_findingOf_40 h
      · have h := h.2 c5
        refine r_iload_n (pc := 17) C 2 dX4_findingOf_17 rfl ?_
        refine r_aload_n (pc := 18) C 0 dX4_findingOf_18 rfl ?_
        refine r_get (pc := 19) (k := k0) (j := 2) (Cn := RX4) (T := TX4) (N := 3) C (bdR h0) (ceR h0 _) rfl iaX4 (by decide) aw128 rfl rfl dX4_findingOf_19 ?_
        refine r_icmp_gt (pc := 22) (tgt := 35) C dX4_findingOf_22 (by decide) (fun c6 => ?_) (fun c6 => ?_)
        · have h := h.1 c6
          refine r_iconst (pc := 35) (v := 2) C dX4_findingOf_35 (by decide) ?_
          refine r_goto (pc := 36) (tgt := 40) C dX4_findingOf_36 (by decide) ?_
          exact r_iret (pc := 40) C dX4_findingOf_40 h
        · have h := h.2 c6
          refine r_iload_n (pc := 25) C 1 dX4_findingOf_25 rfl ?_
          refine r_aload_n (pc := 26) C 0 dX4_findingOf_26 rfl ?_
          refine r_get (pc := 27) (k := k0) (j := 2) (Cn := RX4) (T := TX4) (N := 3) C (bdR h0) (ceR h0 _) rfl iaX4 (by decide) aw128 rfl rfl dX4_findingOf_27 ?_
          refine r_iload_n (pc := 30) C 2 dX4_findingOf_30 rfl ?_
          refine r_isub (pc := 31) C dX4_findingOf_31 ?_
          refine r_icmp_le (pc := 32) (tgt := 39) C dX4_findingOf_32 (by decide) (fun c7 => ?_) (fun c7 => ?_)
          · have h := h.1 c7
            refine r_iconst (pc := 39) (v := 0) C dX4_findingOf_39 (by decide) ?_
            exact r_iret (pc := 40) C dX4_findingOf_40 h
          · have h := h.2 c7
            refine r_iconst (pc := 35) (v := 2) C dX4_findingOf_35 (by decide) ?_
            refine r_goto (pc := 36) (tgt := 40) C dX4_findingOf_36 (by decide) ?_
            exact r_iret (pc := 40) C dX4_findingOf_40 h
  · have h := h.2 c3
    refine r_iconst (pc := 7) (v := 1) C dX4_findingOf_7 (by decide) ?_
    exact r_iret (pc := 8) C dX4_findingOf_8 h
theorem yd_X4_put : yX4_put.cls ≠ "java/lang/invoke/MethodHandle" ∧ yX4_put.cls ≠ "java/lang/invoke/VarHandle" ∧ (parseMethodDescriptor yX4_put.desc).map (fun d => d.parameters.length) = some 2 := by decide +kernel
def w_X4_put (k0 : Nat) (M : Mem) (x1 : Int32) (x2 : Int32) (Q : Int32 → Mem → Prop) : Prop :=
  ((¬ (M k0 1) = 0) → (((¬ (M k0 1) = 1) → (vp_in x1 40 ∧ (∀ M4 : Mem, M4 = ms M (k0 + 1) (Int32.toNatClampNeg x1) x2 → (vp_in x1 40 ∧ (Q (M4 (k0 + 1) (Int32.toNatClampNeg x1)) M4))))) ∧ (((M k0 1) = 1) → (∀ v6 : Int32, v6 = ((Int32.toInt16 x2).toInt32) → (vp_in x1 40 ∧ (∀ M8 : Mem, M8 = ms M (k0 + 1) (Int32.toNatClampNeg x1) v6 → (vp_in x1 40 ∧ (Q (M8 (k0 + 1) (Int32.toNatClampNeg x1)) M8)))))))) ∧ (((M k0 1) = 0) → (∀ v10 : Int32, v10 = ((Int32.toInt8 x2).toInt32) → (vp_in x1 40 ∧ (∀ M12 : Mem, M12 = ms M (k0 + 1) (Int32.toNatClampNeg x1) v10 → (vp_in x1 40 ∧ (Q (M12 (k0 + 1) (Int32.toNatClampNeg x1)) M12))))))
abbrev rm_X4_put : Room := { frames := 3, cells := 0, slots := 0, locals := 60 }
set_option maxHeartbeats 4000000 in
set_option maxRecDepth 100000 in
theorem c_X4_put (X : Cx) (k0 : Nat) (h0 : kd k0 = 4) (M : Mem) (x1 : Int32) (x2 : Int32) (Q : Int32 → Mem → Prop) (h : w_X4_put k0 M x1 x2 Q) : Ct yX4_put cX4_put 3 (some .int) rm_X4_put X M [.ref (ad X k0), .int x1, .int x2] (Qi X Q) := by
  refine ct_of (own := RX4) (lv := [(0, .ref (ad X k0)), (1, .int x1), (2, .int x2)]) rfl (by decide) (Nat.le_of_ble_eq_true rfl) rfl ?_
  intro K C
  unfold w_X4_put at h
  refine r_aload_n (pc := 0) C 0 dX4_put_0 rfl ?_
  refine r_get (pc := 1) (k := k0) (j := 0) (Cn := RX4) (T := TX4) (N := 3) C (bdR h0) (ceR h0 _) rfl iaX4 (by decide) aw97 rfl rfl dX4_put_1 ?_
  refine r_iload_n (pc := 4) C 1 dX4_put_4 rfl ?_
  refine r_aload_n (pc := 5) C 0 dX4_put_5 rfl ?_
  refine r_get (pc := 6) (k := k0) (j := 1) (Cn := RX4) (T := TX4) (N := 3) C (bdR h0) (ceR h0 _) rfl iaX4 (by decide) aw98 rfl rfl dX4_put_6 ?_
  refine r_if_ne (pc := 9) (tgt := 17) C dX4_put_9 (by decide) (fun c1 => ?_) (fun c1 => ?_)
  · have h := h.1 c1
    refine r_aload_n (pc := 17) C 0 dX4_put_17 rfl ?_
    refine r_get (pc := 18) (k := k0) (j := 1) (Cn := RX4) (T := TX4) (N := 3) C (bdR h0) (ceR h0 _) rfl iaX4 (by decide) aw98 rfl rfl dX4_put_18 ?_
    refine r_iconst (pc := 21) (v := 1) C dX4_put_21 (by decide) ?_
    refine r_icmp_ne (pc := 22) (tgt := 30) C dX4_put_22 (by decide) (fun c2 => ?_) (fun c2 => ?_)
    · have h := h.1 c2
      refine r_iload_n (pc := 30) C 2 dX4_put_30 rfl ?_
      obtain ⟨g3, h⟩ := h
      refine q_iast (pc := 31) (k := (k0 + 1)) (n := 40) (j := (Int32.toNatClampNeg x1)) C (bdR1 h0) (ceR1 h0) g3 rfl dX4_put_31 ?_
      refine r_topM (fun M4 eM4 => ?_)
      replace h := h M4 eM4
      refine r_aload_n (pc := 32) C 0 dX4_put_32 rfl ?_
      refine r_get (pc := 33) (k := k0) (j := 0) (Cn := RX4) (T := TX4) (N := 3) C (bdR h0) (ceR h0 _) rfl iaX4 (by decide) aw97 rfl rfl dX4_put_33 ?_
      refine r_iload_n (pc := 36) C 1 dX4_put_36 rfl ?_
      obtain ⟨g5, h⟩ := h
      refine q_iald (pc := 37) (k := (k0 + 1)) (n := 40) (j := (Int32.toNatClampNeg x1)) C (bdR1 h0) (ceR1 h0 _) g5 rfl dX4_put_37 ?_
      exact r_iret (pc := 38) C dX4_put_38 h
    · have h := h.2 c2
      refine r_iload_n (pc := 25) C 2 dX4_put_25 rfl ?_
      refine r_i2s (pc := 26) C dX4_put_26 ?_
      refine r_goto (pc := 27) (tgt := 31) C dX4_put_27 (by decide) ?_
      refine r_topi (fun v6 ev6 => ?_)
      replace h := h v6 ev6
      obtain ⟨g7, h⟩ := h
      refine q_iast (pc := 31) (k := (k0 + 1)) (n := 40) (j := (Int32.toNatClampNeg x1)) C (bdR1 h0) (ceR1 h0) g7 rfl dX4_put_31 ?_
      refine r_topM (fun M8 eM8 => ?_)
      replace h := h M8 eM8
      refine r_aload_n (pc := 32) C 0 dX4_put_32 rfl ?_
      refine r_get (pc := 33) (k := k0) (j := 0) (Cn := RX4) (T := TX4) (N := 3) C (bdR h0) (ceR h0 _) rfl iaX4 (by decide) aw97 rfl rfl dX4_put_33 ?_
      refine r_iload_n (pc := 36) C 1 dX4_put_36 rfl ?_
      obtain ⟨g9, h⟩ := h
      refine q_iald (pc := 37) (k := (k0 + 1)) (n := 40) (j := (Int32.toNatClampNeg x1)) C (bdR1 h0) (ceR1 h0 _) g9 rfl dX4_put_37 ?_
      exact r_iret (pc := 38) C dX4_put_38 h
  · have h := h.2 c1
    refine r_iload_n (pc := 12) C 2 dX4_put_12 rfl ?_
    refine r_i2b (pc := 13) C dX4_put_13 ?_
    refine r_goto (pc := 14) (tgt := 31) C dX4_put_14 (by decide) ?_
    refine r_topi (fun v10 ev10 => ?_)
    replace h := h v10 ev10
    obtain ⟨g11, h⟩ := h
    refine q_iast (pc := 31) (k := (k0 + 1)) (n := 40) (j := (Int32.toNatClampNeg x1)) C (bdR1 h0) (ceR1 h0) g11 rfl dX4_put_31 ?_
    refine r_topM (fun M12 eM12 => ?_)
    replace h := h M12 eM12
    refine r_aload_n (pc := 32) C 0 dX4_put_32 rfl ?_
    refine r_get (pc := 33) (k := k0) (j := 0) (Cn := RX4) (T := TX4) (N := 3) C (bdR h0) (ceR h0 _) rfl iaX4 (by decide) aw97 rfl rfl dX4_put_33 ?_
    refine r_iload_n (pc := 36) C 1 dX4_put_36 rfl ?_
    obtain ⟨g13, h⟩ := h
    refine q_iald (pc := 37) (k := (k0 + 1)) (n := 40) (j := (Int32.toNatClampNeg x1)) C (bdR1 h0) (ceR1 h0 _) g13 rfl dX4_put_37 ?_
    exact r_iret (pc := 38) C dX4_put_38 h
theorem yd_X5_offer : yX5_offer.cls ≠ "java/lang/invoke/MethodHandle" ∧ yX5_offer.cls ≠ "java/lang/invoke/VarHandle" ∧ (parseMethodDescriptor yX5_offer.desc).map (fun d => d.parameters.length) = some 4 := by decide +kernel
def wJ_X5_offer_53  (Q : Mem → Prop)  (M : Mem) (x2 : Int32) (x3 : Int32) (x4 : Int32) (x5 : Int32) (s1 : Int32) (s2 : Int32) : Prop :=
  vp_in s1 18 ∧ (∀ M2 : Mem, M2 = ms M 39 (Int32.toNatClampNeg s1) s2 → (vp_in (x5 + 1) 18 ∧ (∀ M4 : Mem, M4 = ms M2 40 (Int32.toNatClampNeg (x5 + 1)) x4 → (∀ v5 : Int32, v5 = (1 - x2) → (vp_in (x5 + 2) 18 ∧ (∀ M7 : Mem, M7 = ms M4 39 (Int32.toNatClampNeg (x5 + 2)) v5 → (((0 ≤ x3) → (vp_in (x5 + 2) 18 ∧ (∀ M10 : Mem, M10 = ms M7 40 (Int32.toNatClampNeg (x5 + 2)) x4 → (∀ v11 : Int32, v11 = ((M10 37 3) + 1) → (∀ M12 : Mem, M12 = ms M10 37 3 v11 → (Q M12)))))) ∧ ((¬ 0 ≤ x3) → (∀ v13 : Int32, v13 = (2 * x4) → (vp_in (x5 + 2) 18 ∧ (∀ M15 : Mem, M15 = ms M7 40 (Int32.toNatClampNeg (x5 + 2)) v13 → (∀ v16 : Int32, v16 = ((M15 37 3) + 1) → (∀ M17 : Mem, M17 = ms M15 37 3 v16 → (Q M17))))))))))))))
def w_X5_offer  (M : Mem) (x1 : Int32) (x2 : Int32) (x3 : Int32) (x4 : Int32) (Q : Mem → Prop) : Prop :=
  ∀ v1 : Int32, v1 = ((M 37 3) * 3) → (vp_in (M 37 3) 6 ∧ (∀ M3 : Mem, M3 = ms M 38 (Int32.toNatClampNeg (M 37 3)) x1 → (vp_in v1 18 ∧ (∀ M5 : Mem, M5 = ms M3 39 (Int32.toNatClampNeg v1) 0 → (vp_in v1 18 ∧ (∀ M7 : Mem, M7 = ms M5 40 (Int32.toNatClampNeg v1) 0 → (((0 ≤ x3) → (wJ_X5_offer_53  Q  M7 x2 x3 x4 v1 (v1 + 1) 21)) ∧ ((¬ 0 ≤ x3) → (wJ_X5_offer_53  Q  M7 x2 x3 x4 v1 (v1 + 1) (-x2))))))))))
abbrev rm_X5_offer : Room := { frames := 3, cells := 0, slots := 0, locals := 60 }
set_option maxHeartbeats 4000000 in
set_option maxRecDepth 100000 in
theorem c_X5_offer (X : Cx)  (M : Mem) (x1 : Int32) (x2 : Int32) (x3 : Int32) (x4 : Int32) (Q : Mem → Prop) (h : w_X5_offer  M x1 x2 x3 x4 Q) : Ct yX5_offer cX5_offer 6 none rm_X5_offer X M [.ref (ad X 37), .int x1, .int x2, .int x3, .int x4] (Qv X Q) := by
  refine ct_of (own := RX5) (lv := [(0, .ref (ad X 37)), (1, .int x1), (2, .int x2), (3, .int x3), (4, .int x4)]) rfl (by decide) (Nat.le_of_ble_eq_true rfl) rfl ?_
  intro K C
  have hJ53 : ∀  (M : Mem) (x2 : Int32) (x3 : Int32) (x4 : Int32) (x5 : Int32) (s1 : Int32) (s2 : Int32), wJ_X5_offer_53  Q  M x2 x3 x4 x5 s1 s2 → WX K X 6 (Qv X Q) M 53 [(0, .ref (ad X 37)), (2, .int x2), (3, .int x3), (4, .int x4), (5, .int x5)] [.int s2, .int s1, .ref (ad X 39)] := by
    intro  M x2 x3 x4 x5 s1 s2 h
    unfold wJ_X5_offer_53 at h
    obtain ⟨g1, h⟩ := h
    refine q_iast (pc := 53) (k := 39) (n := 18) (j := (Int32.toNatClampNeg s1)) C (by decide) (ce39) g1 rfl dX5_offer_53 ?_
    refine r_topM (fun M2 eM2 => ?_)
    replace h := h M2 eM2
    refine r_aload_n (pc := 54) C 0 dX5_offer_54 rfl ?_
    refine r_get (pc := 55) (k := 37) (j := 2) (Cn := RX5) (T := TX5) (N := 6) C (by decide) (ce37 _) rfl iaX5 (by decide) aw93 rfl rfl dX5_offer_55 ?_
    refine r_iload (pc := 58) C 4 dX5_offer_58 rfl ?_
    refine r_iconst (pc := 60) (v := 1) C dX5_offer_60 (by decide) ?_
    refine r_iadd (pc := 61) C dX5_offer_61 ?_
    refine r_iload (pc := 62) C 3 dX5_offer_62 rfl ?_
    obtain ⟨g3, h⟩ := h
    refine q_iast (pc := 64) (k := 40) (n := 18) (j := (Int32.toNatClampNeg (x5 + 1))) C (by decide) (ce40) g3 rfl dX5_offer_64 ?_
    refine r_topM (fun M4 eM4 => ?_)
    replace h := h M4 eM4
    refine r_aload_n (pc := 65) C 0 dX5_offer_65 rfl ?_
    refine r_get (pc := 66) (k := 37) (j := 1) (Cn := RX5) (T := TX5) (N := 6) C (by decide) (ce37 _) rfl iaX5 (by decide) aw92 rfl rfl dX5_offer_66 ?_
    refine r_iload (pc := 69) C 4 dX5_offer_69 rfl ?_
    refine r_iconst (pc := 71) (v := 2) C dX5_offer_71 (by decide) ?_
    refine r_iadd (pc := 72) C dX5_offer_72 ?_
    refine r_iconst (pc := 73) (v := 1) C dX5_offer_73 (by decide) ?_
    refine r_iload_n (pc := 74) C 1 dX5_offer_74 rfl ?_
    refine r_isub (pc := 75) C dX5_offer_75 ?_
    refine r_topi (fun v5 ev5 => ?_)
    replace h := h v5 ev5
    obtain ⟨g6, h⟩ := h
    refine q_iast (pc := 76) (k := 39) (n := 18) (j := (Int32.toNatClampNeg (x5 + 2))) C (by decide) (ce39) g6 rfl dX5_offer_76 ?_
    refine r_topM (fun M7 eM7 => ?_)
    replace h := h M7 eM7
    refine r_aload_n (pc := 77) C 0 dX5_offer_77 rfl ?_
    refine r_get (pc := 78) (k := 37) (j := 2) (Cn := RX5) (T := TX5) (N := 6) C (by decide) (ce37 _) rfl iaX5 (by decide) aw93 rfl rfl dX5_offer_78 ?_
    refine r_iload (pc := 81) C 4 dX5_offer_81 rfl ?_
    refine r_iconst (pc := 83) (v := 2) C dX5_offer_83 (by decide) ?_
    refine r_iadd (pc := 84) C dX5_offer_84 ?_
    refine r_iload_n (pc := 85) C 2 dX5_offer_85 rfl ?_
    refine r_if_ge (pc := 86) (tgt := 96) C dX5_offer_86 (by decide) (fun c8 => ?_) (fun c8 => ?_)
    · have h := h.1 c8
      refine r_iload (pc := 96) C 3 dX5_offer_96 rfl ?_
      obtain ⟨g9, h⟩ := h
      refine q_iast (pc := 98) (k := 40) (n := 18) (j := (Int32.toNatClampNeg (x5 + 2))) C (by decide) (ce40) g9 rfl dX5_offer_98 ?_
      refine r_topM (fun M10 eM10 => ?_)
      replace h := h M10 eM10
      refine r_aload_n (pc := 99) C 0 dX5_offer_99 rfl ?_
      refine r_dup (pc := 100) C dX5_offer_100 rfl ?_
      refine r_get (pc := 101) (k := 37) (j := 3) (Cn := RX5) (T := TX5) (N := 6) C (by decide) (ce37 _) rfl iaX5 (by decide) aw712 rfl rfl dX5_offer_101 ?_
      refine r_iconst (pc := 104) (v := 1) C dX5_offer_104 (by decide) ?_
      refine r_iadd (pc := 105) C dX5_offer_105 ?_
      refine r_topi (fun v11 ev11 => ?_)
      replace h := h v11 ev11
      refine r_put (pc := 106) (k := 37) (j := 3) (Cn := RX5) (T := TX5) (N := 6) (host := "") C (by decide) (ce37 _) rfl iaX5 (by decide) (ce37 _) tyX5_ok nmX5 aw712 rfl rfl (tyX5_ok 3 (by decide)) (Nat.le_of_ble_eq_true rfl) dX5_offer_106 ?_
      refine r_topM (fun M12 eM12 => ?_)
      replace h := h M12 eM12
      exact r_vret (pc := 109) C dX5_offer_109 h
    · have h := h.2 c8
      refine r_iconst (pc := 89) (v := 2) C dX5_offer_89 (by decide) ?_
      refine r_iload (pc := 90) C 3 dX5_offer_90 rfl ?_
      refine r_imul (pc := 92) C dX5_offer_92 ?_
      refine r_goto (pc := 93) (tgt := 98) C dX5_offer_93 (by decide) ?_
      refine r_topi (fun v13 ev13 => ?_)
      replace h := h v13 ev13
      obtain ⟨g14, h⟩ := h
      refine q_iast (pc := 98) (k := 40) (n := 18) (j := (Int32.toNatClampNeg (x5 + 2))) C (by decide) (ce40) g14 rfl dX5_offer_98 ?_
      refine r_topM (fun M15 eM15 => ?_)
      replace h := h M15 eM15
      refine r_aload_n (pc := 99) C 0 dX5_offer_99 rfl ?_
      refine r_dup (pc := 100) C dX5_offer_100 rfl ?_
      refine r_get (pc := 101) (k := 37) (j := 3) (Cn := RX5) (T := TX5) (N := 6) C (by decide) (ce37 _) rfl iaX5 (by decide) aw712 rfl rfl dX5_offer_101 ?_
      refine r_iconst (pc := 104) (v := 1) C dX5_offer_104 (by decide) ?_
      refine r_iadd (pc := 105) C dX5_offer_105 ?_
      refine r_topi (fun v16 ev16 => ?_)
      replace h := h v16 ev16
      refine r_put (pc := 106) (k := 37) (j := 3) (Cn := RX5) (T := TX5) (N := 6) (host := "") C (by decide) (ce37 _) rfl iaX5 (by decide) (ce37 _) tyX5_ok nmX5 aw712 rfl rfl (tyX5_ok 3 (by decide)) (Nat.le_of_ble_eq_true rfl) dX5_offer_106 ?_
      refine r_topM (fun M17 eM17 => ?_)
      replace h := h M17 eM17
      exact r_vret (pc := 109) C dX5_offer_109 h
  unfold w_X5_offer at h
  refine r_aload_n (pc := 0) C 0 dX5_offer_0 rfl ?_
  refine r_get (pc := 1) (k := 37) (j := 3) (Cn := RX5) (T := TX5) (N := 6) C (by decide) (ce37 _) rfl iaX5 (by decide) aw712 rfl rfl dX5_offer_1 ?_
  refine r_iconst (pc := 4) (v := 3) C dX5_offer_4 (by decide) ?_
  refine r_imul (pc := 5) C dX5_offer_5 ?_
  refine r_topi (fun v1 ev1 => ?_)
  replace h := h v1 ev1
  refine r_istore (pc := 6) (lv2 := [(5, .int v1), (0, .ref (ad X 37)), (1, .int x1), (2, .int x2), (3, .int x3), (4, .int x4)]) C dX5_offer_6 (by decide) rfl ?_
  refine r_aload_n (pc := 8) C 1 dX5_offer_8 rfl ?_
  refine r_get (pc := 9) (k := 37) (j := 0) (Cn := RX5) (T := TX5) (N := 6) C (by decide) (ce37 _) rfl iaX5 (by decide) aw91 rfl rfl dX5_offer_9 ?_
  refine r_aload_n (pc := 12) C 1 dX5_offer_12 rfl ?_
  refine r_get (pc := 13) (k := 37) (j := 3) (Cn := RX5) (T := TX5) (N := 6) C (by decide) (ce37 _) rfl iaX5 (by decide) aw712 rfl rfl dX5_offer_13 ?_
  refine r_iload_n (pc := 16) C 2 dX5_offer_16 rfl ?_
  obtain ⟨g2, h⟩ := h
  refine q_iast (pc := 17) (k := 38) (n := 6) (j := (Int32.toNatClampNeg (M 37 3))) C (by decide) (ce38) g2 rfl dX5_offer_17 ?_
  refine r_topM (fun M3 eM3 => ?_)
  replace h := h M3 eM3
  refine r_aload_n (pc := 18) C 1 dX5_offer_18 rfl ?_
  refine r_get (pc := 19) (k := 37) (j := 1) (Cn := RX5) (T := TX5) (N := 6) C (by decide) (ce37 _) rfl iaX5 (by decide) aw92 rfl rfl dX5_offer_19 ?_
  refine r_iload (pc := 22) C 0 dX5_offer_22 rfl ?_
  refine r_iconst (pc := 24) (v := 0) C dX5_offer_24 (by decide) ?_
  obtain ⟨g4, h⟩ := h
  refine q_iast (pc := 25) (k := 39) (n := 18) (j := (Int32.toNatClampNeg v1)) C (by decide) (ce39) g4 rfl dX5_offer_25 ?_
  refine r_topM (fun M5 eM5 => ?_)
  replace h := h M5 eM5
  refine r_aload_n (pc := 26) C 1 dX5_offer_26 rfl ?_
  refine r_get (pc := 27) (k := 37) (j := 2) (Cn := RX5) (T := TX5) (N := 6) C (by decide) (ce37 _) rfl iaX5 (by decide) aw93 rfl rfl dX5_offer_27 ?_
  refine r_iload (pc := 30) C 0 dX5_offer_30 rfl ?_
  refine r_iconst (pc := 32) (v := 0) C dX5_offer_32 (by decide) ?_
  obtain ⟨g6, h⟩ := h
  refine q_iast (pc := 33) (k := 40) (n := 18) (j := (Int32.toNatClampNeg v1)) C (by decide) (ce40) g6 rfl dX5_offer_33 ?_
  refine r_topM (fun M7 eM7 => ?_)
  replace h := h M7 eM7
  refine r_aload_n (pc := 34) C 1 dX5_offer_34 rfl ?_
  refine r_get (pc := 35) (k := 37) (j := 1) (Cn := RX5) (T := TX5) (N := 6) C (by decide) (ce37 _) rfl iaX5 (by decide) aw92 rfl rfl dX5_offer_35 ?_
  refine r_iload (pc := 38) C 0 dX5_offer_38 rfl ?_
  refine r_iconst (pc := 40) (v := 1) C dX5_offer_40 (by decide) ?_
  refine r_iadd (pc := 41) C dX5_offer_41 ?_
  refine r_iload_n (pc := 42) C 4 dX5_offer_42 rfl ?_
  refine r_if_ge (pc := 43) (tgt := 51) C dX5_offer_43 (by decide) (fun c8 => ?_) (fun c8 => ?_)
  · have h := h.1 c8
    refine r_bipush (pc := 51) (v := 21) C dX5_offer_51 (by decide) ?_
    refine r_sub (lv2 := [(0, .ref (ad X 37)), (2, .int x2), (3, .int x3), (4, .int x4), (5, .int v1)]) [1, 3, 4, 5, 0] rfl ?_
    exact hJ53  _ _ _ _ _ _ _ h
  · have h := h.2 c8
    refine r_iload_n (pc := 46) C 3 dX5_offer_46 rfl ?_
    refine r_ineg (pc := 47) C dX5_offer_47 ?_
    refine r_goto (pc := 48) (tgt := 53) C dX5_offer_48 (by decide) ?_
    refine r_sub (lv2 := [(0, .ref (ad X 37)), (2, .int x2), (3, .int x3), (4, .int x4), (5, .int v1)]) [1, 3, 4, 5, 0] rfl ?_
    exact hJ53  _ _ _ _ _ _ _ h
theorem yd_X5_gather : yX5_gather.cls ≠ "java/lang/invoke/MethodHandle" ∧ yX5_gather.cls ≠ "java/lang/invoke/VarHandle" ∧ (parseMethodDescriptor yX5_gather.desc).map (fun d => d.parameters.length) = some 3 := by decide +kernel
def wB_X5_gather_8 (k1 : Nat) (Q : Mem → Prop)  (R8 : Mem → Int32 → Int32 → Prop) (M : Mem) (x3 : Int32) (x4 : Int32) : Prop :=
  (((M k1 3) ≤ x4) → (Q M)) ∧ ((¬ (M k1 3) ≤ x4) → (((x4 = x3) → (∀ v3 : Int32, v3 = x4 + 1 → (R8 M x3 v3))) ∧ ((¬ x4 = x3) → (vp_in x4 6 ∧ ((((M 30 (Int32.toNatClampNeg x4)) ≤ 0) → (∀ v6 : Int32, v6 = x4 + 1 → (R8 M x3 v6))) ∧ ((¬ (M 30 (Int32.toNatClampNeg x4)) ≤ 0) → (vp_in x4 6 ∧ (((0 < (M 31 (Int32.toNatClampNeg x4))) → (∀ v9 : Int32, v9 = x4 + 1 → (R8 M x3 v9))) ∧ ((¬ 0 < (M 31 (Int32.toNatClampNeg x4))) → (w_X6_leaningOf k1 M x4 x3 (fun r11 M10 => vp_in x4 6 ∧ (vp_in x4 6 ∧ (w_X5_offer  M10 x4 r11 (M10 31 (Int32.toNatClampNeg x4)) (M10 30 (Int32.toNatClampNeg x4)) (fun M14 => ∀ v16 : Int32, v16 = x4 + 1 → (R8 M14 x3 v16)))))))))))))))
def wL_X5_gather_8 (k1 : Nat) (Q : Mem → Prop)  : Nat → Mem → Int32 → Int32 → Prop
  | 0 => fun _ _ _ => False
  | n + 1 => fun M x3 x4 => wB_X5_gather_8 k1 Q  (wL_X5_gather_8 k1 Q  n) M x3 x4
theorem wL_X5_gather_8_s {k1 : Nat} {Q : Mem → Prop}  {n : Nat} {M : Mem} {x3 : Int32} {x4 : Int32} (h : wL_X5_gather_8 k1 Q  (n + 1) M x3 x4) : wB_X5_gather_8 k1 Q  (wL_X5_gather_8 k1 Q  n) M x3 x4 := h
def w_X5_gather (k1 : Nat) (M : Mem) (x3 : Int32) (Q : Mem → Prop) : Prop :=
  ∀ M1 : Mem, M1 = ms M 37 3 0 → (∃ n2 : Nat, wL_X5_gather_8 k1 Q  n2 M1 x3 0)
abbrev rm_X5_gather : Room := { frames := 6, cells := 0, slots := 0, locals := 120 }
set_option maxHeartbeats 4000000 in
set_option maxRecDepth 100000 in
theorem c_X5_gather (X : Cx) (k1 : Nat) (h1 : kd k1 = 6) (M : Mem) (x3 : Int32) (Q : Mem → Prop) (h : w_X5_gather k1 M x3 Q) : Ct yX5_gather cX5_gather 5 none rm_X5_gather X M [.ref (ad X 37), .ref (ad X k1), .ref (ad X 29), .int x3] (Qv X Q) := by
  refine ct_of (own := RX5) (lv := [(0, .ref (ad X 37)), (1, .ref (ad X k1)), (2, .ref (ad X 29)), (3, .int x3)]) rfl (by decide) (Nat.le_of_ble_eq_true rfl) rfl ?_
  intro K C
  have hL8 : ∀  (n : Nat) (M : Mem) (x3 : Int32) (x4 : Int32), wL_X5_gather_8 k1 Q  n M x3 x4 → WX K X 5 (Qv X Q) M 8 [(0, .ref (ad X 37)), (1, .ref (ad X k1)), (2, .ref (ad X 29)), (3, .int x3), (4, .int x4)] [] := by
    intro  n
    induction n with
    | zero => intro M x3 x4 h; exact absurd h id
    | succ n ih =>
      intro M x3 x4 h
      replace h := wL_X5_gather_8_s h
      unfold wB_X5_gather_8 at h
      refine r_iload (pc := 8) C 4 dX5_gather_8 rfl ?_
      refine r_aload_n (pc := 10) C 1 dX5_gather_10 rfl ?_
      refine r_getN (pc := 11) (k := k1) (j := 3) (Cn := RX6) (T := TX6) (N := 16) C (bdT h1) (ceT h1 _) rfl iaX6 (by decide) nf13 rfl rfl dX5_gather_11 ?_
      refine r_icmp_ge (pc := 14) (tgt := 76) C dX5_gather_14 (by decide) (fun c1 => ?_) (fun c1 => ?_)
      · have h := h.1 c1
        exact r_vret (pc := 76) C dX5_gather_76 h
      · have h := h.2 c1
        refine r_iload (pc := 17) C 4 dX5_gather_17 rfl ?_
        refine r_iload_n (pc := 19) C 3 dX5_gather_19 rfl ?_
        refine r_icmp_eq (pc := 20) (tgt := 70) C dX5_gather_20 (by decide) (fun c2 => ?_) (fun c2 => ?_)
        · have h := h.1 c2
          obtain ⟨v3, ev3⟩ : ∃ z : Int32, z = x4 + 1 := ⟨_, rfl⟩
          replace h := h v3 ev3
          refine r_iinc (pc := 70) (v := v3) (lv2 := [(4, .int v3), (0, .ref (ad X 37)), (1, .ref (ad X k1)), (2, .ref (ad X 29)), (3, .int x3)]) C 4 dX5_gather_70 rfl (by rw [ev3]; rfl) (by decide) rfl ?_
          refine r_goto (pc := 73) (tgt := 8) C dX5_gather_73 (by decide) ?_
          refine r_sub (lv2 := [(0, .ref (ad X 37)), (1, .ref (ad X k1)), (2, .ref (ad X 29)), (3, .int x3), (4, .int v3)]) [1, 2, 3, 4, 0] rfl ?_
          exact ih _ _ _ h
        · have h := h.2 c2
          refine r_aload_n (pc := 23) C 2 dX5_gather_23 rfl ?_
          refine r_getN (pc := 24) (k := 29) (j := 0) (Cn := RX2) (T := TX2) (N := 3) C (by decide) (ce29 _) rfl iaX2 (by decide) nf39 rfl rfl dX5_gather_24 ?_
          refine r_iload (pc := 27) C 4 dX5_gather_27 rfl ?_
          obtain ⟨g4, h⟩ := h
          refine q_iald (pc := 29) (k := 30) (n := 6) (j := (Int32.toNatClampNeg x4)) C (by decide) (ce30 _) g4 rfl dX5_gather_29 ?_
          refine r_if_le (pc := 30) (tgt := 70) C dX5_gather_30 (by decide) (fun c5 => ?_) (fun c5 => ?_)
          · have h := h.1 c5
            obtain ⟨v6, ev6⟩ : ∃ z : Int32, z = x4 + 1 := ⟨_, rfl⟩
            replace h := h v6 ev6
            refine r_iinc (pc := 70) (v := v6) (lv2 := [(4, .int v6), (0, .ref (ad X 37)), (1, .ref (ad X k1)), (2, .ref (ad X 29)), (3, .int x3)]) C 4 dX5_gather_70 rfl (by rw [ev6]; rfl) (by decide) rfl ?_
            refine r_goto (pc := 73) (tgt := 8) C dX5_gather_73 (by decide) ?_
            refine r_sub (lv2 := [(0, .ref (ad X 37)), (1, .ref (ad X k1)), (2, .ref (ad X 29)), (3, .int x3), (4, .int v6)]) [1, 2, 3, 4, 0] rfl ?_
            exact ih _ _ _ h
          · have h := h.2 c5
            refine r_aload_n (pc := 33) C 2 dX5_gather_33 rfl ?_
            refine r_getN (pc := 34) (k := 29) (j := 1) (Cn := RX2) (T := TX2) (N := 3) C (by decide) (ce29 _) rfl iaX2 (by decide) nf40 rfl rfl dX5_gather_34 ?_
            refine r_iload (pc := 37) C 4 dX5_gather_37 rfl ?_
            obtain ⟨g7, h⟩ := h
            refine q_iald (pc := 39) (k := 31) (n := 6) (j := (Int32.toNatClampNeg x4)) C (by decide) (ce31 _) g7 rfl dX5_gather_39 ?_
            refine r_if_gt (pc := 40) (tgt := 70) C dX5_gather_40 (by decide) (fun c8 => ?_) (fun c8 => ?_)
            · have h := h.1 c8
              obtain ⟨v9, ev9⟩ : ∃ z : Int32, z = x4 + 1 := ⟨_, rfl⟩
              replace h := h v9 ev9
              refine r_iinc (pc := 70) (v := v9) (lv2 := [(4, .int v9), (0, .ref (ad X 37)), (1, .ref (ad X k1)), (2, .ref (ad X 29)), (3, .int x3)]) C 4 dX5_gather_70 rfl (by rw [ev9]; rfl) (by decide) rfl ?_
              refine r_goto (pc := 73) (tgt := 8) C dX5_gather_73 (by decide) ?_
              refine r_sub (lv2 := [(0, .ref (ad X 37)), (1, .ref (ad X k1)), (2, .ref (ad X 29)), (3, .int x3), (4, .int v9)]) [1, 2, 3, 4, 0] rfl ?_
              exact ih _ _ _ h
            · have h := h.2 c8
              refine r_aload_n (pc := 43) C 0 dX5_gather_43 rfl ?_
              refine r_iload (pc := 44) C 4 dX5_gather_44 rfl ?_
              refine r_aload_n (pc := 46) C 1 dX5_gather_46 rfl ?_
              refine r_iload (pc := 47) C 4 dX5_gather_47 rfl ?_
              refine r_iload_n (pc := 49) C 3 dX5_gather_49 rfl ?_
              have hM := c_X6_leaningOf X k1 h1 M x4 x3 _ h
              refine q_s0 (s1 := List.reverse [.int x4, .int x3] ++ .ref (ad X k1) :: [.int x4, .ref (ad X 37)]) rfl ?_
              refine r_callVNi (pc := 50) (k := k1) (As := [.int x4, .int x3]) (st := [.int x4, .ref (ad X 37)]) C 2 (bdT h1) (ceT h1 _) rfl aw447 aw448 hM nm49 aw449 aw28 yd_X6_leaningOf ⟨rfl, rfl⟩ ⟨Nat.le_of_ble_eq_true rfl, Nat.le_of_ble_eq_true rfl⟩ rfl (Nat.le_of_ble_eq_true rfl) dX5_gather_50 (fun r11 M10 h => ?_)
              refine r_aload_n (pc := 53) C 2 dX5_gather_53 rfl ?_
              refine r_getN (pc := 54) (k := 29) (j := 1) (Cn := RX2) (T := TX2) (N := 3) C (by decide) (ce29 _) rfl iaX2 (by decide) nf40 rfl rfl dX5_gather_54 ?_
              refine r_iload (pc := 57) C 4 dX5_gather_57 rfl ?_
              obtain ⟨g12, h⟩ := h
              refine q_iald (pc := 59) (k := 31) (n := 6) (j := (Int32.toNatClampNeg x4)) C (by decide) (ce31 _) g12 rfl dX5_gather_59 ?_
              refine r_aload_n (pc := 60) C 2 dX5_gather_60 rfl ?_
              refine r_getN (pc := 61) (k := 29) (j := 0) (Cn := RX2) (T := TX2) (N := 3) C (by decide) (ce29 _) rfl iaX2 (by decide) nf39 rfl rfl dX5_gather_61 ?_
              refine r_iload (pc := 64) C 4 dX5_gather_64 rfl ?_
              obtain ⟨g13, h⟩ := h
              refine q_iald (pc := 66) (k := 30) (n := 6) (j := (Int32.toNatClampNeg x4)) C (by decide) (ce30 _) g13 rfl dX5_gather_66 ?_
              have hM := c_X5_offer X  M10 x4 r11 (M10 31 (Int32.toNatClampNeg x4)) (M10 30 (Int32.toNatClampNeg x4)) _ h
              refine q_s0 (s1 := List.reverse [.int x4, .int r11, .int (M10 31 (Int32.toNatClampNeg x4)), .int (M10 30 (Int32.toNatClampNeg x4))] ++ .ref (ad X 37) :: []) rfl ?_
              refine r_callVv (pc := 67) (k := 37) (As := [.int x4, .int r11, .int (M10 31 (Int32.toNatClampNeg x4)), .int (M10 30 (Int32.toNatClampNeg x4))]) (st := []) C 4 (by decide) (ce37 _) rfl aw714 aw715 hM aw713 aw716 aw42 yd_X5_offer ⟨rfl, rfl⟩ ⟨Nat.le_of_ble_eq_true rfl, Nat.le_of_ble_eq_true rfl⟩ rfl (Nat.le_of_ble_eq_true rfl) dX5_gather_67 (fun M14 h => ?_)
              obtain ⟨v16, ev16⟩ : ∃ z : Int32, z = x4 + 1 := ⟨_, rfl⟩
              replace h := h v16 ev16
              refine r_iinc (pc := 70) (v := v16) (lv2 := [(4, .int v16), (0, .ref (ad X 37)), (1, .ref (ad X k1)), (2, .ref (ad X 29)), (3, .int x3)]) C 4 dX5_gather_70 rfl (by rw [ev16]; rfl) (by decide) rfl ?_
              refine r_goto (pc := 73) (tgt := 8) C dX5_gather_73 (by decide) ?_
              refine r_sub (lv2 := [(0, .ref (ad X 37)), (1, .ref (ad X k1)), (2, .ref (ad X 29)), (3, .int x3), (4, .int v16)]) [1, 2, 3, 4, 0] rfl ?_
              exact ih _ _ _ h
  unfold w_X5_gather at h
  refine r_aload_n (pc := 0) C 0 dX5_gather_0 rfl ?_
  refine r_iconst (pc := 1) (v := 0) C dX5_gather_1 (by decide) ?_
  refine r_put (pc := 2) (k := 37) (j := 3) (Cn := RX5) (T := TX5) (N := 6) (host := "") C (by decide) (ce37 _) rfl iaX5 (by decide) (ce37 _) tyX5_ok nmX5 aw712 rfl rfl (tyX5_ok 3 (by decide)) (Nat.le_of_ble_eq_true rfl) dX5_gather_2 ?_
  refine r_topM (fun M1 eM1 => ?_)
  replace h := h M1 eM1
  refine r_iconst (pc := 5) (v := 0) C dX5_gather_5 (by decide) ?_
  refine r_istore (pc := 6) (lv2 := [(4, .int 0), (0, .ref (ad X 37)), (1, .ref (ad X k1)), (2, .ref (ad X 29)), (3, .int x3)]) C dX5_gather_6 (by decide) rfl ?_
  obtain ⟨n2, h⟩ := h
  refine r_sub (lv2 := [(0, .ref (ad X 37)), (1, .ref (ad X k1)), (2, .ref (ad X 29)), (3, .int x3), (4, .int 0)]) [1, 2, 3, 4, 0] rfl ?_
  exact hL8  _ _ _ _ h
theorem yd_X5_weigh : yX5_weigh.cls ≠ "java/lang/invoke/MethodHandle" ∧ yX5_weigh.cls ≠ "java/lang/invoke/VarHandle" ∧ (parseMethodDescriptor yX5_weigh.desc).map (fun d => d.parameters.length) = some 2 := by decide +kernel
def wJ_X5_weigh_149  (Q : Mem → Prop)  (M : Mem) (x2 : Int32) (x4 : Int32) (x5 : Int32) (x6 : Int32) (s0 : Int32) : Prop :=
  ((x5 < x2) → (Q M)) ∧ ((¬ x5 < x2) → (((40 < x4) → (Q M)) ∧ ((¬ 40 < x4) → (((s0 = 0) → (Q M)) ∧ ((¬ s0 = 0) → (∀ M4 : Mem, M4 = ms M 37 4 x4 → (∀ M5 : Mem, M5 = ms M4 37 5 x6 → (Q M5))))))))
def wJ_X5_weigh_148  (Q : Mem → Prop)  (M : Mem) (x2 : Int32) (x4 : Int32) (x5 : Int32) (x6 : Int32) : Prop :=
  wJ_X5_weigh_149  Q  M x2 x4 x5 x6 0
def wJ_X5_weigh_144  (Q : Mem → Prop)  (M : Mem) (x2 : Int32) (x4 : Int32) (x5 : Int32) (x6 : Int32) : Prop :=
  wJ_X5_weigh_149  Q  M x2 x4 x5 x6 1
def wB_X5_weigh_14  (Q : Mem → Prop)  (R14 : Mem → Int32 → Int32 → Int32 → Int32 → Int32 → Int32 → Prop) (M : Mem) (x2 : Int32) (x3 : Int32) (x4 : Int32) (x5 : Int32) (x6 : Int32) (x7 : Int32) : Prop :=
  (((M 37 3) ≤ x7) → ((((M 37 4) = (-1000000)) → (wJ_X5_weigh_144  Q  M x2 x4 x5 x6)) ∧ ((¬ (M 37 4) = (-1000000)) → (((x4 < (M 37 4)) → (wJ_X5_weigh_144  Q  M x2 x4 x5 x6)) ∧ ((¬ x4 < (M 37 4)) → (((¬ x4 = (M 37 4)) → (wJ_X5_weigh_148  Q  M x2 x4 x5 x6)) ∧ ((x4 = (M 37 4)) → ((((M 37 5) ≤ x6) → (wJ_X5_weigh_148  Q  M x2 x4 x5 x6)) ∧ ((¬ (M 37 5) ≤ x6) → (wJ_X5_weigh_144  Q  M x2 x4 x5 x6)))))))))) ∧ ((¬ (M 37 3) ≤ x7) → (∀ v6 : Int32, v6 = ((x7 * 3) + (x3 - x3 / 3 * 3)) → (∀ v7 : Int32, v7 = (x3 / 3) → (vp_in v6 18 ∧ ((((M 39 (Int32.toNatClampNeg v6)) ≤ 20) → (vp_in v6 18 ∧ (∀ v11 : Int32, v11 = (x4 + (M 39 (Int32.toNatClampNeg v6))) → (vp_in v6 18 ∧ (∀ v13 : Int32, v13 = (x5 + (M 40 (Int32.toNatClampNeg v6))) → (vp_in v6 18 ∧ ((((M 39 (Int32.toNatClampNeg v6)) ≤ 0) → (∀ v16 : Int32, v16 = (x6 ||| 0) → (∀ v17 : Int32, v17 = x7 + 1 → (R14 M x2 v7 v11 v13 v16 v17)))) ∧ ((¬ (M 39 (Int32.toNatClampNeg v6)) ≤ 0) → (vp_in x7 6 ∧ (∀ v19 : Int32, v19 = (x6 ||| (1 <<< ((M 38 (Int32.toNatClampNeg x7)) &&& 31))) → (∀ v20 : Int32, v20 = x7 + 1 → (R14 M x2 v7 v11 v13 v19 v20)))))))))))) ∧ ((¬ (M 39 (Int32.toNatClampNeg v6)) ≤ 20) → (Q M)))))))
def wL_X5_weigh_14  (Q : Mem → Prop)  : Nat → Mem → Int32 → Int32 → Int32 → Int32 → Int32 → Int32 → Prop
  | 0 => fun _ _ _ _ _ _ _ => False
  | n + 1 => fun M x2 x3 x4 x5 x6 x7 => wB_X5_weigh_14  Q  (wL_X5_weigh_14  Q  n) M x2 x3 x4 x5 x6 x7
theorem wL_X5_weigh_14_s  {Q : Mem → Prop}  {n : Nat} {M : Mem} {x2 : Int32} {x3 : Int32} {x4 : Int32} {x5 : Int32} {x6 : Int32} {x7 : Int32} (h : wL_X5_weigh_14  Q  (n + 1) M x2 x3 x4 x5 x6 x7) : wB_X5_weigh_14  Q  (wL_X5_weigh_14  Q  n) M x2 x3 x4 x5 x6 x7 := h
def w_X5_weigh  (M : Mem) (x1 : Int32) (x2 : Int32) (Q : Mem → Prop) : Prop :=
  ∃ n1 : Nat, wL_X5_weigh_14  Q  n1 M x2 x1 0 0 0 0
abbrev rm_X5_weigh : Room := { frames := 3, cells := 0, slots := 0, locals := 60 }
set_option maxHeartbeats 4000000 in
set_option maxRecDepth 100000 in
theorem c_X5_weigh (X : Cx)  (M : Mem) (x1 : Int32) (x2 : Int32) (Q : Mem → Prop) (h : w_X5_weigh  M x1 x2 Q) : Ct yX5_weigh cX5_weigh 9 none rm_X5_weigh X M [.ref (ad X 37), .int x1, .int x2] (Qv X Q) := by
  refine ct_of (own := RX5) (lv := [(0, .ref (ad X 37)), (1, .int x1), (2, .int x2)]) rfl (by decide) (Nat.le_of_ble_eq_true rfl) rfl ?_
  intro K C
  have hJ149 : ∀  (M : Mem) (x2 : Int32) (x4 : Int32) (x5 : Int32) (x6 : Int32) (s0 : Int32), wJ_X5_weigh_149  Q  M x2 x4 x5 x6 s0 → WX K X 9 (Qv X Q) M 149 [(0, .ref (ad X 37)), (2, .int x2), (4, .int x4), (5, .int x5), (6, .int x6)] [.int s0] := by
    intro  M x2 x4 x5 x6 s0 h
    unfold wJ_X5_weigh_149 at h
    refine r_istore (pc := 149) (lv2 := [(7, .int s0), (0, .ref (ad X 37)), (2, .int x2), (4, .int x4), (5, .int x5), (6, .int x6)]) C dX5_weigh_149 (by decide) rfl ?_
    refine r_iload (pc := 151) C 4 dX5_weigh_151 rfl ?_
    refine r_iload_n (pc := 153) C 2 dX5_weigh_153 rfl ?_
    refine r_icmp_lt (pc := 154) (tgt := 181) C dX5_weigh_154 (by decide) (fun c1 => ?_) (fun c1 => ?_)
    · have h := h.1 c1
      exact r_vret (pc := 181) C dX5_weigh_181 h
    · have h := h.2 c1
      refine r_iload (pc := 157) C 3 dX5_weigh_157 rfl ?_
      refine r_bipush (pc := 159) (v := 40) C dX5_weigh_159 (by decide) ?_
      refine r_icmp_gt (pc := 161) (tgt := 181) C dX5_weigh_161 (by decide) (fun c2 => ?_) (fun c2 => ?_)
      · have h := h.1 c2
        exact r_vret (pc := 181) C dX5_weigh_181 h
      · have h := h.2 c2
        refine r_iload (pc := 164) C 0 dX5_weigh_164 rfl ?_
        refine r_if_eq (pc := 166) (tgt := 181) C dX5_weigh_166 (by decide) (fun c3 => ?_) (fun c3 => ?_)
        · have h := h.1 c3
          exact r_vret (pc := 181) C dX5_weigh_181 h
        · have h := h.2 c3
          refine r_aload_n (pc := 169) C 1 dX5_weigh_169 rfl ?_
          refine r_iload (pc := 170) C 3 dX5_weigh_170 rfl ?_
          refine r_put (pc := 172) (k := 37) (j := 4) (Cn := RX5) (T := TX5) (N := 6) (host := "") C (by decide) (ce37 _) rfl iaX5 (by decide) (ce37 _) tyX5_ok nmX5 aw721 rfl rfl (tyX5_ok 4 (by decide)) (Nat.le_of_ble_eq_true rfl) dX5_weigh_172 ?_
          refine r_topM (fun M4 eM4 => ?_)
          replace h := h M4 eM4
          refine r_aload_n (pc := 175) C 1 dX5_weigh_175 rfl ?_
          refine r_iload (pc := 176) C 5 dX5_weigh_176 rfl ?_
          refine r_put (pc := 178) (k := 37) (j := 5) (Cn := RX5) (T := TX5) (N := 6) (host := "") C (by decide) (ce37 _) rfl iaX5 (by decide) (ce37 _) tyX5_ok nmX5 aw722 rfl rfl (tyX5_ok 5 (by decide)) (Nat.le_of_ble_eq_true rfl) dX5_weigh_178 ?_
          refine r_topM (fun M5 eM5 => ?_)
          replace h := h M5 eM5
          exact r_vret (pc := 181) C dX5_weigh_181 h
  have hJ148 : ∀  (M : Mem) (x2 : Int32) (x4 : Int32) (x5 : Int32) (x6 : Int32), wJ_X5_weigh_148  Q  M x2 x4 x5 x6 → WX K X 9 (Qv X Q) M 148 [(0, .ref (ad X 37)), (2, .int x2), (4, .int x4), (5, .int x5), (6, .int x6)] [] := by
    intro  M x2 x4 x5 x6 h
    unfold wJ_X5_weigh_148 at h
    refine r_iconst (pc := 148) (v := 0) C dX5_weigh_148 (by decide) ?_
    refine r_sub (lv2 := [(0, .ref (ad X 37)), (2, .int x2), (4, .int x4), (5, .int x5), (6, .int x6)]) [0, 1, 2, 3, 4] rfl ?_
    exact hJ149  _ _ _ _ _ _ h
  have hJ144 : ∀  (M : Mem) (x2 : Int32) (x4 : Int32) (x5 : Int32) (x6 : Int32), wJ_X5_weigh_144  Q  M x2 x4 x5 x6 → WX K X 9 (Qv X Q) M 144 [(0, .ref (ad X 37)), (2, .int x2), (4, .int x4), (5, .int x5), (6, .int x6)] [] := by
    intro  M x2 x4 x5 x6 h
    unfold wJ_X5_weigh_144 at h
    refine r_iconst (pc := 144) (v := 1) C dX5_weigh_144 (by decide) ?_
    refine r_goto (pc := 145) (tgt := 149) C dX5_weigh_145 (by decide) ?_
    refine r_sub (lv2 := [(0, .ref (ad X 37)), (2, .int x2), (4, .int x4), (5, .int x5), (6, .int x6)]) [0, 1, 2, 3, 4] rfl ?_
    exact hJ149  _ _ _ _ _ _ h
  have hL14 : ∀  (n : Nat) (M : Mem) (x2 : Int32) (x3 : Int32) (x4 : Int32) (x5 : Int32) (x6 : Int32) (x7 : Int32), wL_X5_weigh_14  Q  n M x2 x3 x4 x5 x6 x7 → WX K X 9 (Qv X Q) M 14 [(0, .ref (ad X 37)), (2, .int x2), (3, .int x3), (4, .int x4), (5, .int x5), (6, .int x6), (7, .int x7)] [] := by
    intro  n
    induction n with
    | zero => intro M x2 x3 x4 x5 x6 x7 h; exact absurd h id
    | succ n ih =>
      intro M x2 x3 x4 x5 x6 x7 h
      replace h := wL_X5_weigh_14_s h
      unfold wB_X5_weigh_14 at h
      refine r_iload (pc := 14) C 6 dX5_weigh_14 rfl ?_
      refine r_aload_n (pc := 16) C 0 dX5_weigh_16 rfl ?_
      refine r_get (pc := 17) (k := 37) (j := 3) (Cn := RX5) (T := TX5) (N := 6) C (by decide) (ce37 _) rfl iaX5 (by decide) aw712 rfl rfl dX5_weigh_17 ?_
      refine r_icmp_ge (pc := 20) (tgt := 108) C dX5_weigh_20 (by decide) (fun c1 => ?_) (fun c1 => ?_)
      · have h := h.1 c1
        refine r_aload_n (pc := 108) C 0 dX5_weigh_108 rfl ?_
        refine r_get (pc := 109) (k := 37) (j := 4) (Cn := RX5) (T := TX5) (N := 6) C (by decide) (ce37 _) rfl iaX5 (by decide) aw721 rfl rfl dX5_weigh_109 ?_
        refine r_ldc (pc := 112) C aw720 dX5_weigh_112 ?_
        refine r_icmp_eq (pc := 114) (tgt := 144) C dX5_weigh_114 (by decide) (fun c2 => ?_) (fun c2 => ?_)
        · have h := h.1 c2
          refine r_sub (lv2 := [(0, .ref (ad X 37)), (2, .int x2), (4, .int x4), (5, .int x5), (6, .int x6)]) [0, 1, 3, 4, 5] rfl ?_
          exact hJ144  _ _ _ _ _ h
        · have h := h.2 c2
          refine r_iload (pc := 117) C 3 dX5_weigh_117 rfl ?_
          refine r_aload_n (pc := 119) C 0 dX5_weigh_119 rfl ?_
          refine r_get (pc := 120) (k := 37) (j := 4) (Cn := RX5) (T := TX5) (N := 6) C (by decide) (ce37 _) rfl iaX5 (by decide) aw721 rfl rfl dX5_weigh_120 ?_
          refine r_icmp_lt (pc := 123) (tgt := 144) C dX5_weigh_123 (by decide) (fun c3 => ?_) (fun c3 => ?_)
          · have h := h.1 c3
            refine r_sub (lv2 := [(0, .ref (ad X 37)), (2, .int x2), (4, .int x4), (5, .int x5), (6, .int x6)]) [0, 1, 3, 4, 5] rfl ?_
            exact hJ144  _ _ _ _ _ h
          · have h := h.2 c3
            refine r_iload (pc := 126) C 3 dX5_weigh_126 rfl ?_
            refine r_aload_n (pc := 128) C 0 dX5_weigh_128 rfl ?_
            refine r_get (pc := 129) (k := 37) (j := 4) (Cn := RX5) (T := TX5) (N := 6) C (by decide) (ce37 _) rfl iaX5 (by decide) aw721 rfl rfl dX5_weigh_129 ?_
            refine r_icmp_ne (pc := 132) (tgt := 148) C dX5_weigh_132 (by decide) (fun c4 => ?_) (fun c4 => ?_)
            · have h := h.1 c4
              refine r_sub (lv2 := [(0, .ref (ad X 37)), (2, .int x2), (4, .int x4), (5, .int x5), (6, .int x6)]) [0, 1, 3, 4, 5] rfl ?_
              exact hJ148  _ _ _ _ _ h
            · have h := h.2 c4
              refine r_iload (pc := 135) C 5 dX5_weigh_135 rfl ?_
              refine r_aload_n (pc := 137) C 0 dX5_weigh_137 rfl ?_
              refine r_get (pc := 138) (k := 37) (j := 5) (Cn := RX5) (T := TX5) (N := 6) C (by decide) (ce37 _) rfl iaX5 (by decide) aw722 rfl rfl dX5_weigh_138 ?_
              refine r_icmp_ge (pc := 141) (tgt := 148) C dX5_weigh_141 (by decide) (fun c5 => ?_) (fun c5 => ?_)
              · have h := h.1 c5
                refine r_sub (lv2 := [(0, .ref (ad X 37)), (2, .int x2), (4, .int x4), (5, .int x5), (6, .int x6)]) [0, 1, 3, 4, 5] rfl ?_
                exact hJ148  _ _ _ _ _ h
              · have h := h.2 c5
                refine r_sub (lv2 := [(0, .ref (ad X 37)), (2, .int x2), (4, .int x4), (5, .int x5), (6, .int x6)]) [0, 1, 3, 4, 5] rfl ?_
                exact hJ144  _ _ _ _ _ h
      · have h := h.2 c1
        refine r_iload (pc := 23) C 6 dX5_weigh_23 rfl ?_
        refine r_iconst (pc := 25) (v := 3) C dX5_weigh_25 (by decide) ?_
        refine r_imul (pc := 26) C dX5_weigh_26 ?_
        refine r_iload_n (pc := 27) C 2 dX5_weigh_27 rfl ?_
        refine r_iconst (pc := 28) (v := 3) C dX5_weigh_28 (by decide) ?_
        refine r_irem (pc := 29) C dX5_weigh_29 (by decide) ?_
        refine r_iadd (pc := 30) C dX5_weigh_30 ?_
        refine r_topi (fun v6 ev6 => ?_)
        replace h := h v6 ev6
        refine r_istore (pc := 31) (lv2 := [(8, .int v6), (0, .ref (ad X 37)), (2, .int x2), (3, .int x3), (4, .int x4), (5, .int x5), (6, .int x6), (7, .int x7)]) C dX5_weigh_31 (by decide) rfl ?_
        refine r_iload_n (pc := 33) C 3 dX5_weigh_33 rfl ?_
        refine r_iconst (pc := 34) (v := 3) C dX5_weigh_34 (by decide) ?_
        refine r_idiv (pc := 35) C dX5_weigh_35 (by decide) ?_
        refine r_topi (fun v7 ev7 => ?_)
        replace h := h v7 ev7
        refine r_istore_n (pc := 36) (lv2 := [(3, .int v7), (8, .int v6), (0, .ref (ad X 37)), (2, .int x2), (4, .int x4), (5, .int x5), (6, .int x6), (7, .int x7)]) C dX5_weigh_36 (by decide) rfl ?_
        refine r_aload_n (pc := 37) C 2 dX5_weigh_37 rfl ?_
        refine r_get (pc := 38) (k := 37) (j := 1) (Cn := RX5) (T := TX5) (N := 6) C (by decide) (ce37 _) rfl iaX5 (by decide) aw92 rfl rfl dX5_weigh_38 ?_
        refine r_iload (pc := 41) C 1 dX5_weigh_41 rfl ?_
        obtain ⟨g8, h⟩ := h
        refine q_iald (pc := 43) (k := 39) (n := 18) (j := (Int32.toNatClampNeg v6)) C (by decide) (ce39 _) g8 rfl dX5_weigh_43 ?_
        refine r_bipush (pc := 44) (v := 20) C dX5_weigh_44 (by decide) ?_
        refine r_icmp_le (pc := 46) (tgt := 50) C dX5_weigh_46 (by decide) (fun c9 => ?_) (fun c9 => ?_)
        · have h := h.1 c9
          refine r_iload (pc := 50) C 4 dX5_weigh_50 rfl ?_
          refine r_aload_n (pc := 52) C 2 dX5_weigh_52 rfl ?_
          refine r_get (pc := 53) (k := 37) (j := 1) (Cn := RX5) (T := TX5) (N := 6) C (by decide) (ce37 _) rfl iaX5 (by decide) aw92 rfl rfl dX5_weigh_53 ?_
          refine r_iload (pc := 56) C 1 dX5_weigh_56 rfl ?_
          obtain ⟨g10, h⟩ := h
          refine q_iald (pc := 58) (k := 39) (n := 18) (j := (Int32.toNatClampNeg v6)) C (by decide) (ce39 _) g10 rfl dX5_weigh_58 ?_
          refine r_iadd (pc := 59) C dX5_weigh_59 ?_
          refine r_topi (fun v11 ev11 => ?_)
          replace h := h v11 ev11
          refine r_istore (pc := 60) (lv2 := [(4, .int v11), (3, .int v7), (8, .int v6), (0, .ref (ad X 37)), (2, .int x2), (5, .int x5), (6, .int x6), (7, .int x7)]) C dX5_weigh_60 (by decide) rfl ?_
          refine r_iload (pc := 62) C 5 dX5_weigh_62 rfl ?_
          refine r_aload_n (pc := 64) C 3 dX5_weigh_64 rfl ?_
          refine r_get (pc := 65) (k := 37) (j := 2) (Cn := RX5) (T := TX5) (N := 6) C (by decide) (ce37 _) rfl iaX5 (by decide) aw93 rfl rfl dX5_weigh_65 ?_
          refine r_iload (pc := 68) C 2 dX5_weigh_68 rfl ?_
          obtain ⟨g12, h⟩ := h
          refine q_iald (pc := 70) (k := 40) (n := 18) (j := (Int32.toNatClampNeg v6)) C (by decide) (ce40 _) g12 rfl dX5_weigh_70 ?_
          refine r_iadd (pc := 71) C dX5_weigh_71 ?_
          refine r_topi (fun v13 ev13 => ?_)
          replace h := h v13 ev13
          refine r_istore (pc := 72) (lv2 := [(5, .int v13), (4, .int v11), (3, .int v7), (8, .int v6), (0, .ref (ad X 37)), (2, .int x2), (6, .int x6), (7, .int x7)]) C dX5_weigh_72 (by decide) rfl ?_
          refine r_iload (pc := 74) C 6 dX5_weigh_74 rfl ?_
          refine r_aload_n (pc := 76) C 4 dX5_weigh_76 rfl ?_
          refine r_get (pc := 77) (k := 37) (j := 1) (Cn := RX5) (T := TX5) (N := 6) C (by decide) (ce37 _) rfl iaX5 (by decide) aw92 rfl rfl dX5_weigh_77 ?_
          refine r_iload (pc := 80) C 3 dX5_weigh_80 rfl ?_
          obtain ⟨g14, h⟩ := h
          refine q_iald (pc := 82) (k := 39) (n := 18) (j := (Int32.toNatClampNeg v6)) C (by decide) (ce39 _) g14 rfl dX5_weigh_82 ?_
          refine r_if_le (pc := 83) (tgt := 98) C dX5_weigh_83 (by decide) (fun c15 => ?_) (fun c15 => ?_)
          · have h := h.1 c15
            refine r_iconst (pc := 98) (v := 0) C dX5_weigh_98 (by decide) ?_
            refine r_ior (pc := 99) C dX5_weigh_99 ?_
            refine r_topi (fun v16 ev16 => ?_)
            replace h := h v16 ev16
            refine r_istore (pc := 100) (lv2 := [(6, .int v16), (5, .int v13), (4, .int v11), (3, .int v7), (8, .int v6), (0, .ref (ad X 37)), (2, .int x2), (7, .int x7)]) C dX5_weigh_100 (by decide) rfl ?_
            obtain ⟨v17, ev17⟩ : ∃ z : Int32, z = x7 + 1 := ⟨_, rfl⟩
            replace h := h v17 ev17
            refine r_iinc (pc := 102) (v := v17) (lv2 := [(7, .int v17), (6, .int v16), (5, .int v13), (4, .int v11), (3, .int v7), (8, .int v6), (0, .ref (ad X 37)), (2, .int x2)]) C 7 dX5_weigh_102 rfl (by rw [ev17]; rfl) (by decide) rfl ?_
            refine r_goto (pc := 105) (tgt := 14) C dX5_weigh_105 (by decide) ?_
            refine r_sub (lv2 := [(0, .ref (ad X 37)), (2, .int x2), (3, .int v7), (4, .int v11), (5, .int v13), (6, .int v16), (7, .int v17)]) [6, 7, 4, 3, 2, 1, 0] rfl ?_
            exact ih _ _ _ _ _ _ _ h
          · have h := h.2 c15
            refine r_iconst (pc := 86) (v := 1) C dX5_weigh_86 (by decide) ?_
            refine r_aload_n (pc := 87) C 4 dX5_weigh_87 rfl ?_
            refine r_get (pc := 88) (k := 37) (j := 0) (Cn := RX5) (T := TX5) (N := 6) C (by decide) (ce37 _) rfl iaX5 (by decide) aw91 rfl rfl dX5_weigh_88 ?_
            refine r_iload (pc := 91) C 7 dX5_weigh_91 rfl ?_
            obtain ⟨g18, h⟩ := h
            refine q_iald (pc := 93) (k := 38) (n := 6) (j := (Int32.toNatClampNeg x7)) C (by decide) (ce38 _) g18 rfl dX5_weigh_93 ?_
            refine r_ishl (pc := 94) C dX5_weigh_94 ?_
            refine r_goto (pc := 95) (tgt := 99) C dX5_weigh_95 (by decide) ?_
            refine r_ior (pc := 99) C dX5_weigh_99 ?_
            refine r_topi (fun v19 ev19 => ?_)
            replace h := h v19 ev19
            refine r_istore (pc := 100) (lv2 := [(6, .int v19), (5, .int v13), (4, .int v11), (3, .int v7), (8, .int v6), (0, .ref (ad X 37)), (2, .int x2), (7, .int x7)]) C dX5_weigh_100 (by decide) rfl ?_
            obtain ⟨v20, ev20⟩ : ∃ z : Int32, z = x7 + 1 := ⟨_, rfl⟩
            replace h := h v20 ev20
            refine r_iinc (pc := 102) (v := v20) (lv2 := [(7, .int v20), (6, .int v19), (5, .int v13), (4, .int v11), (3, .int v7), (8, .int v6), (0, .ref (ad X 37)), (2, .int x2)]) C 7 dX5_weigh_102 rfl (by rw [ev20]; rfl) (by decide) rfl ?_
            refine r_goto (pc := 105) (tgt := 14) C dX5_weigh_105 (by decide) ?_
            refine r_sub (lv2 := [(0, .ref (ad X 37)), (2, .int x2), (3, .int v7), (4, .int v11), (5, .int v13), (6, .int v19), (7, .int v20)]) [6, 7, 4, 3, 2, 1, 0] rfl ?_
            exact ih _ _ _ _ _ _ _ h
        · have h := h.2 c9
          exact r_vret (pc := 49) C dX5_weigh_49 h
  unfold w_X5_weigh at h
  refine r_iload_n (pc := 0) C 1 dX5_weigh_0 rfl ?_
  refine r_istore_n (pc := 1) (lv2 := [(3, .int x1), (0, .ref (ad X 37)), (1, .int x1), (2, .int x2)]) C dX5_weigh_1 (by decide) rfl ?_
  refine r_iconst (pc := 2) (v := 0) C dX5_weigh_2 (by decide) ?_
  refine r_istore (pc := 3) (lv2 := [(4, .int 0), (3, .int x1), (0, .ref (ad X 37)), (1, .int x1), (2, .int x2)]) C dX5_weigh_3 (by decide) rfl ?_
  refine r_iconst (pc := 5) (v := 0) C dX5_weigh_5 (by decide) ?_
  refine r_istore (pc := 6) (lv2 := [(5, .int 0), (4, .int 0), (3, .int x1), (0, .ref (ad X 37)), (1, .int x1), (2, .int x2)]) C dX5_weigh_6 (by decide) rfl ?_
  refine r_iconst (pc := 8) (v := 0) C dX5_weigh_8 (by decide) ?_
  refine r_istore (pc := 9) (lv2 := [(6, .int 0), (5, .int 0), (4, .int 0), (3, .int x1), (0, .ref (ad X 37)), (1, .int x1), (2, .int x2)]) C dX5_weigh_9 (by decide) rfl ?_
  refine r_iconst (pc := 11) (v := 0) C dX5_weigh_11 (by decide) ?_
  refine r_istore (pc := 12) (lv2 := [(7, .int 0), (6, .int 0), (5, .int 0), (4, .int 0), (3, .int x1), (0, .ref (ad X 37)), (1, .int x1), (2, .int x2)]) C dX5_weigh_12 (by decide) rfl ?_
  obtain ⟨n1, h⟩ := h
  refine r_sub (lv2 := [(0, .ref (ad X 37)), (2, .int x2), (3, .int x1), (4, .int 0), (5, .int 0), (6, .int 0), (7, .int 0)]) [5, 7, 4, 3, 2, 1, 0] rfl ?_
  exact hL14  _ _ _ _ _ _ _ _ h
theorem yd_X5_seek : yX5_seek.cls ≠ "java/lang/invoke/MethodHandle" ∧ yX5_seek.cls ≠ "java/lang/invoke/VarHandle" ∧ (parseMethodDescriptor yX5_seek.desc).map (fun d => d.parameters.length) = some 1 := by decide +kernel
def wB_X5_seek_59  (Q : Mem → Prop)  (R59 : Mem → Int32 → Int32 → Int32 → Prop) (M : Mem) (x2 : Int32) (x3 : Int32) (x4 : Int32) : Prop :=
  ((x3 ≤ x4) → (Q M)) ∧ ((¬ x3 ≤ x4) → ((((M 37 4) = 0) → (Q M)) ∧ ((¬ (M 37 4) = 0) → (w_X5_weigh  M x4 x2 (fun M3 => ∀ v5 : Int32, v5 = x4 + 1 → (R59 M3 x2 x3 v5))))))
def wL_X5_seek_59  (Q : Mem → Prop)  : Nat → Mem → Int32 → Int32 → Int32 → Prop
  | 0 => fun _ _ _ _ => False
  | n + 1 => fun M x2 x3 x4 => wB_X5_seek_59  Q  (wL_X5_seek_59  Q  n) M x2 x3 x4
theorem wL_X5_seek_59_s  {Q : Mem → Prop}  {n : Nat} {M : Mem} {x2 : Int32} {x3 : Int32} {x4 : Int32} (h : wL_X5_seek_59  Q  (n + 1) M x2 x3 x4) : wB_X5_seek_59  Q  (wL_X5_seek_59  Q  n) M x2 x3 x4 := h
def wB_X5_seek_37  (Q : Mem → Prop)  (R37 : Mem → Int32 → Int32 → Int32 → Prop) (M : Mem) (x2 : Int32) (x3 : Int32) (x4 : Int32) : Prop :=
  (((M 37 3) ≤ x4) → (∃ n2 : Nat, wL_X5_seek_59  Q  n2 M x2 x3 1)) ∧ ((¬ (M 37 3) ≤ x4) → (∀ v3 : Int32, v3 = (x3 * 3) → (∀ v4 : Int32, v4 = x4 + 1 → (R37 M x2 v3 v4))))
def wL_X5_seek_37  (Q : Mem → Prop)  : Nat → Mem → Int32 → Int32 → Int32 → Prop
  | 0 => fun _ _ _ _ => False
  | n + 1 => fun M x2 x3 x4 => wB_X5_seek_37  Q  (wL_X5_seek_37  Q  n) M x2 x3 x4
theorem wL_X5_seek_37_s  {Q : Mem → Prop}  {n : Nat} {M : Mem} {x2 : Int32} {x3 : Int32} {x4 : Int32} (h : wL_X5_seek_37  Q  (n + 1) M x2 x3 x4) : wB_X5_seek_37  Q  (wL_X5_seek_37  Q  n) M x2 x3 x4 := h
def wJ_X5_seek_14  (Q : Mem → Prop)  (M : Mem) (s1 : Int32) : Prop :=
  ∀ M1 : Mem, M1 = ms M 37 4 s1 → (∀ v2 : Int32, v2 = (M1 37 4) → (∀ M3 : Mem, M3 = ms M1 37 5 v2 → (w_X2_margin  M3  (fun r5 M4 => ∀ v6 : Int32, v6 = (1 - r5) → (∃ n7 : Nat, wL_X5_seek_37  Q  n7 M4 v6 1 0)))))
def w_X5_seek  (M : Mem)  (Q : Mem → Prop) : Prop :=
  w_X2_opens  M  (fun r2 M1 => ((r2 = 0) → (wJ_X5_seek_14  Q  M1 (-1000000))) ∧ ((¬ r2 = 0) → (wJ_X5_seek_14  Q  M1 0)))
abbrev rm_X5_seek : Room := { frames := 9, cells := 0, slots := 0, locals := 180 }
set_option maxHeartbeats 4000000 in
set_option maxRecDepth 100000 in
theorem c_X5_seek (X : Cx)  (M : Mem)  (Q : Mem → Prop) (h : w_X5_seek  M  Q) : Ct yX5_seek cX5_seek 5 none rm_X5_seek X M [.ref (ad X 37), .ref (ad X 29)] (Qv X Q) := by
  refine ct_of (own := RX5) (lv := [(0, .ref (ad X 37)), (1, .ref (ad X 29))]) rfl (by decide) (Nat.le_of_ble_eq_true rfl) rfl ?_
  intro K C
  have hL59 : ∀  (n : Nat) (M : Mem) (x2 : Int32) (x3 : Int32) (x4 : Int32), wL_X5_seek_59  Q  n M x2 x3 x4 → WX K X 5 (Qv X Q) M 59 [(0, .ref (ad X 37)), (2, .int x2), (3, .int x3), (4, .int x4)] [] := by
    intro  n
    induction n with
    | zero => intro M x2 x3 x4 h; exact absurd h id
    | succ n ih =>
      intro M x2 x3 x4 h
      replace h := wL_X5_seek_59_s h
      unfold wB_X5_seek_59 at h
      refine r_iload (pc := 59) C 3 dX5_seek_59 rfl ?_
      refine r_iload_n (pc := 61) C 2 dX5_seek_61 rfl ?_
      refine r_icmp_ge (pc := 62) (tgt := 85) C dX5_seek_62 (by decide) (fun c1 => ?_) (fun c1 => ?_)
      · have h := h.1 c1
        exact r_vret (pc := 85) C dX5_seek_85 h
      · have h := h.2 c1
        refine r_aload_n (pc := 65) C 0 dX5_seek_65 rfl ?_
        refine r_get (pc := 66) (k := 37) (j := 4) (Cn := RX5) (T := TX5) (N := 6) C (by decide) (ce37 _) rfl iaX5 (by decide) aw721 rfl rfl dX5_seek_66 ?_
        refine r_if_eq (pc := 69) (tgt := 85) C dX5_seek_69 (by decide) (fun c2 => ?_) (fun c2 => ?_)
        · have h := h.1 c2
          exact r_vret (pc := 85) C dX5_seek_85 h
        · have h := h.2 c2
          refine r_aload_n (pc := 72) C 0 dX5_seek_72 rfl ?_
          refine r_iload (pc := 73) C 3 dX5_seek_73 rfl ?_
          refine r_iload_n (pc := 75) C 1 dX5_seek_75 rfl ?_
          have hM := c_X5_weigh X  M x4 x2 _ h
          refine q_s0 (s1 := List.reverse [.int x4, .int x2] ++ .ref (ad X 37) :: []) rfl ?_
          refine r_callVv (pc := 76) (k := 37) (As := [.int x4, .int x2]) (st := []) C 2 (by decide) (ce37 _) rfl aw728 aw729 hM aw727 aw730 aw42 yd_X5_weigh ⟨rfl, rfl⟩ ⟨Nat.le_of_ble_eq_true rfl, Nat.le_of_ble_eq_true rfl⟩ rfl (Nat.le_of_ble_eq_true rfl) dX5_seek_76 (fun M3 h => ?_)
          obtain ⟨v5, ev5⟩ : ∃ z : Int32, z = x4 + 1 := ⟨_, rfl⟩
          replace h := h v5 ev5
          refine r_iinc (pc := 79) (v := v5) (lv2 := [(4, .int v5), (0, .ref (ad X 37)), (2, .int x2), (3, .int x3)]) C 3 dX5_seek_79 rfl (by rw [ev5]; rfl) (by decide) rfl ?_
          refine r_goto (pc := 82) (tgt := 59) C dX5_seek_82 (by decide) ?_
          refine r_sub (lv2 := [(0, .ref (ad X 37)), (2, .int x2), (3, .int x3), (4, .int v5)]) [1, 2, 3, 0] rfl ?_
          exact ih _ _ _ _ h
  have hL37 : ∀  (n : Nat) (M : Mem) (x2 : Int32) (x3 : Int32) (x4 : Int32), wL_X5_seek_37  Q  n M x2 x3 x4 → WX K X 5 (Qv X Q) M 37 [(0, .ref (ad X 37)), (2, .int x2), (3, .int x3), (4, .int x4)] [] := by
    intro  n
    induction n with
    | zero => intro M x2 x3 x4 h; exact absurd h id
    | succ n ih =>
      intro M x2 x3 x4 h
      replace h := wL_X5_seek_37_s h
      unfold wB_X5_seek_37 at h
      refine r_iload (pc := 37) C 3 dX5_seek_37 rfl ?_
      refine r_aload_n (pc := 39) C 0 dX5_seek_39 rfl ?_
      refine r_get (pc := 40) (k := 37) (j := 3) (Cn := RX5) (T := TX5) (N := 6) C (by decide) (ce37 _) rfl iaX5 (by decide) aw712 rfl rfl dX5_seek_40 ?_
      refine r_icmp_ge (pc := 43) (tgt := 56) C dX5_seek_43 (by decide) (fun c1 => ?_) (fun c1 => ?_)
      · have h := h.1 c1
        refine r_iconst (pc := 56) (v := 1) C dX5_seek_56 (by decide) ?_
        refine r_istore (pc := 57) (lv2 := [(4, .int 1), (0, .ref (ad X 37)), (2, .int x2), (3, .int x3)]) C dX5_seek_57 (by decide) rfl ?_
        obtain ⟨n2, h⟩ := h
        refine r_sub (lv2 := [(0, .ref (ad X 37)), (2, .int x2), (3, .int x3), (4, .int 1)]) [1, 2, 3, 0] rfl ?_
        exact hL59  _ _ _ _ _ h
      · have h := h.2 c1
        refine r_iload_n (pc := 46) C 2 dX5_seek_46 rfl ?_
        refine r_iconst (pc := 47) (v := 3) C dX5_seek_47 (by decide) ?_
        refine r_imul (pc := 48) C dX5_seek_48 ?_
        refine r_topi (fun v3 ev3 => ?_)
        replace h := h v3 ev3
        refine r_istore_n (pc := 49) (lv2 := [(3, .int v3), (0, .ref (ad X 37)), (2, .int x2), (4, .int x4)]) C dX5_seek_49 (by decide) rfl ?_
        obtain ⟨v4, ev4⟩ : ∃ z : Int32, z = x4 + 1 := ⟨_, rfl⟩
        replace h := h v4 ev4
        refine r_iinc (pc := 50) (v := v4) (lv2 := [(4, .int v4), (3, .int v3), (0, .ref (ad X 37)), (2, .int x2)]) C 3 dX5_seek_50 rfl (by rw [ev4]; rfl) (by decide) rfl ?_
        refine r_goto (pc := 53) (tgt := 37) C dX5_seek_53 (by decide) ?_
        refine r_sub (lv2 := [(0, .ref (ad X 37)), (2, .int x2), (3, .int v3), (4, .int v4)]) [2, 3, 1, 0] rfl ?_
        exact ih _ _ _ _ h
  have hJ14 : ∀  (M : Mem) (s1 : Int32), wJ_X5_seek_14  Q  M s1 → WX K X 5 (Qv X Q) M 14 [(0, .ref (ad X 37)), (1, .ref (ad X 29))] [.int s1, .ref (ad X 37)] := by
    intro  M s1 h
    unfold wJ_X5_seek_14 at h
    refine r_put (pc := 14) (k := 37) (j := 4) (Cn := RX5) (T := TX5) (N := 6) (host := "") C (by decide) (ce37 _) rfl iaX5 (by decide) (ce37 _) tyX5_ok nmX5 aw721 rfl rfl (tyX5_ok 4 (by decide)) (Nat.le_of_ble_eq_true rfl) dX5_seek_14 ?_
    refine r_topM (fun M1 eM1 => ?_)
    replace h := h M1 eM1
    refine r_aload_n (pc := 17) C 0 dX5_seek_17 rfl ?_
    refine r_aload_n (pc := 18) C 0 dX5_seek_18 rfl ?_
    refine r_get (pc := 19) (k := 37) (j := 4) (Cn := RX5) (T := TX5) (N := 6) C (by decide) (ce37 _) rfl iaX5 (by decide) aw721 rfl rfl dX5_seek_19 ?_
    refine r_topi (fun v2 ev2 => ?_)
    replace h := h v2 ev2
    refine r_put (pc := 22) (k := 37) (j := 5) (Cn := RX5) (T := TX5) (N := 6) (host := "") C (by decide) (ce37 _) rfl iaX5 (by decide) (ce37 _) tyX5_ok nmX5 aw722 rfl rfl (tyX5_ok 5 (by decide)) (Nat.le_of_ble_eq_true rfl) dX5_seek_22 ?_
    refine r_topM (fun M3 eM3 => ?_)
    replace h := h M3 eM3
    refine r_iconst (pc := 25) (v := 1) C dX5_seek_25 (by decide) ?_
    refine r_aload_n (pc := 26) C 1 dX5_seek_26 rfl ?_
    have hM := c_X2_margin X  M3  _ h
    refine q_s0 (s1 := List.reverse [] ++ .ref (ad X 29) :: [.int 1]) rfl ?_
    refine r_callVNi (pc := 27) (k := 29) (As := []) (st := [.int 1]) C 0 (by decide) (ce29 _) rfl aw723 aw724 hM nm52 aw725 aw34 yd_X2_margin ⟨rfl, rfl⟩ ⟨Nat.le_of_ble_eq_true rfl, Nat.le_of_ble_eq_true rfl⟩ rfl (Nat.le_of_ble_eq_true rfl) dX5_seek_27 (fun r5 M4 h => ?_)
    refine r_isub (pc := 30) C dX5_seek_30 ?_
    refine r_topi (fun v6 ev6 => ?_)
    replace h := h v6 ev6
    refine r_istore_n (pc := 31) (lv2 := [(2, .int v6), (0, .ref (ad X 37)), (1, .ref (ad X 29))]) C dX5_seek_31 (by decide) rfl ?_
    refine r_iconst (pc := 32) (v := 1) C dX5_seek_32 (by decide) ?_
    refine r_istore_n (pc := 33) (lv2 := [(3, .int 1), (2, .int v6), (0, .ref (ad X 37)), (1, .ref (ad X 29))]) C dX5_seek_33 (by decide) rfl ?_
    refine r_iconst (pc := 34) (v := 0) C dX5_seek_34 (by decide) ?_
    refine r_istore (pc := 35) (lv2 := [(4, .int 0), (3, .int 1), (2, .int v6), (0, .ref (ad X 37)), (1, .ref (ad X 29))]) C dX5_seek_35 (by decide) rfl ?_
    obtain ⟨n7, h⟩ := h
    refine r_sub (lv2 := [(0, .ref (ad X 37)), (2, .int v6), (3, .int 1), (4, .int 0)]) [3, 2, 1, 0] rfl ?_
    exact hL37  _ _ _ _ _ h
  unfold w_X5_seek at h
  refine r_aload_n (pc := 0) C 0 dX5_seek_0 rfl ?_
  refine r_aload_n (pc := 1) C 1 dX5_seek_1 rfl ?_
  have hM := c_X2_opens X  M  _ h
  refine q_s0 (s1 := List.reverse [] ++ .ref (ad X 29) :: [.ref (ad X 37)]) rfl ?_
  refine r_callVNi (pc := 2) (k := 29) (As := []) (st := [.ref (ad X 37)]) C 0 (by decide) (ce29 _) rfl aw454 aw455 hM nm51 aw456 aw34 yd_X2_opens ⟨rfl, rfl⟩ ⟨Nat.le_of_ble_eq_true rfl, Nat.le_of_ble_eq_true rfl⟩ rfl (Nat.le_of_ble_eq_true rfl) dX5_seek_2 (fun r2 M1 h => ?_)
  refine r_if_eq (pc := 5) (tgt := 12) C dX5_seek_5 (by decide) (fun c3 => ?_) (fun c3 => ?_)
  · have h := h.1 c3
    refine r_ldc (pc := 12) C aw720 dX5_seek_12 ?_
    refine r_sub (lv2 := [(0, .ref (ad X 37)), (1, .ref (ad X 29))]) [0, 1] rfl ?_
    exact hJ14  _ _ h
  · have h := h.2 c3
    refine r_iconst (pc := 8) (v := 0) C dX5_seek_8 (by decide) ?_
    refine r_goto (pc := 9) (tgt := 14) C dX5_seek_9 (by decide) ?_
    refine r_sub (lv2 := [(0, .ref (ad X 37)), (1, .ref (ad X 29))]) [0, 1] rfl ?_
    exact hJ14  _ _ h
theorem yd_X7_add : yX7_add.cls ≠ "java/lang/invoke/MethodHandle" ∧ yX7_add.cls ≠ "java/lang/invoke/VarHandle" ∧ (parseMethodDescriptor yX7_add.desc).map (fun d => d.parameters.length) = some 3 := by decide +kernel
def w_X7_add  (M : Mem) (x1 : Int32) (x2 : Int32) (x3 : Int32) (Q : Mem → Prop) : Prop :=
  vp_in (M 32 4) 7 ∧ (∀ M2 : Mem, M2 = ms M 33 (Int32.toNatClampNeg (M 32 4)) x1 → (vp_in (M2 32 4) 7 ∧ (∀ M4 : Mem, M4 = ms M2 34 (Int32.toNatClampNeg (M2 32 4)) x2 → (vp_in (M4 32 4) 7 ∧ (∀ M6 : Mem, M6 = ms M4 35 (Int32.toNatClampNeg (M4 32 4)) x3 → (∀ v7 : Int32, v7 = ((M6 32 4) + 1) → (∀ M8 : Mem, M8 = ms M6 32 4 v7 → (Q M8))))))))
abbrev rm_X7_add : Room := { frames := 3, cells := 0, slots := 0, locals := 60 }
set_option maxHeartbeats 4000000 in
set_option maxRecDepth 100000 in
theorem c_X7_add (X : Cx)  (M : Mem) (x1 : Int32) (x2 : Int32) (x3 : Int32) (Q : Mem → Prop) (h : w_X7_add  M x1 x2 x3 Q) : Ct yX7_add cX7_add 4 none rm_X7_add X M [.ref (ad X 32), .int x1, .int x2, .int x3] (Qv X Q) := by
  refine ct_of (own := RX7) (lv := [(0, .ref (ad X 32)), (1, .int x1), (2, .int x2), (3, .int x3)]) rfl (by decide) (Nat.le_of_ble_eq_true rfl) rfl ?_
  intro K C
  unfold w_X7_add at h
  refine r_aload_n (pc := 0) C 0 dX7_add_0 rfl ?_
  refine r_get (pc := 1) (k := 32) (j := 0) (Cn := RX7) (T := TX7) (N := 5) C (by decide) (ce32 _) rfl iaX7 (by decide) aw84 rfl rfl dX7_add_1 ?_
  refine r_aload_n (pc := 4) C 0 dX7_add_4 rfl ?_
  refine r_get (pc := 5) (k := 32) (j := 4) (Cn := RX7) (T := TX7) (N := 5) C (by decide) (ce32 _) rfl iaX7 (by decide) aw639 rfl rfl dX7_add_5 ?_
  refine r_iload_n (pc := 8) C 1 dX7_add_8 rfl ?_
  obtain ⟨g1, h⟩ := h
  refine q_iast (pc := 9) (k := 33) (n := 7) (j := (Int32.toNatClampNeg (M 32 4))) C (by decide) (ce33) g1 rfl dX7_add_9 ?_
  refine r_topM (fun M2 eM2 => ?_)
  replace h := h M2 eM2
  refine r_aload_n (pc := 10) C 0 dX7_add_10 rfl ?_
  refine r_get (pc := 11) (k := 32) (j := 1) (Cn := RX7) (T := TX7) (N := 5) C (by decide) (ce32 _) rfl iaX7 (by decide) aw85 rfl rfl dX7_add_11 ?_
  refine r_aload_n (pc := 14) C 0 dX7_add_14 rfl ?_
  refine r_get (pc := 15) (k := 32) (j := 4) (Cn := RX7) (T := TX7) (N := 5) C (by decide) (ce32 _) rfl iaX7 (by decide) aw639 rfl rfl dX7_add_15 ?_
  refine r_iload_n (pc := 18) C 2 dX7_add_18 rfl ?_
  obtain ⟨g3, h⟩ := h
  refine q_iast (pc := 19) (k := 34) (n := 7) (j := (Int32.toNatClampNeg (M2 32 4))) C (by decide) (ce34) g3 rfl dX7_add_19 ?_
  refine r_topM (fun M4 eM4 => ?_)
  replace h := h M4 eM4
  refine r_aload_n (pc := 20) C 0 dX7_add_20 rfl ?_
  refine r_get (pc := 21) (k := 32) (j := 2) (Cn := RX7) (T := TX7) (N := 5) C (by decide) (ce32 _) rfl iaX7 (by decide) aw86 rfl rfl dX7_add_21 ?_
  refine r_aload_n (pc := 24) C 0 dX7_add_24 rfl ?_
  refine r_get (pc := 25) (k := 32) (j := 4) (Cn := RX7) (T := TX7) (N := 5) C (by decide) (ce32 _) rfl iaX7 (by decide) aw639 rfl rfl dX7_add_25 ?_
  refine r_iload_n (pc := 28) C 3 dX7_add_28 rfl ?_
  obtain ⟨g5, h⟩ := h
  refine q_iast (pc := 29) (k := 35) (n := 7) (j := (Int32.toNatClampNeg (M4 32 4))) C (by decide) (ce35) g5 rfl dX7_add_29 ?_
  refine r_topM (fun M6 eM6 => ?_)
  replace h := h M6 eM6
  refine r_aload_n (pc := 30) C 0 dX7_add_30 rfl ?_
  refine r_dup (pc := 31) C dX7_add_31 rfl ?_
  refine r_get (pc := 32) (k := 32) (j := 4) (Cn := RX7) (T := TX7) (N := 5) C (by decide) (ce32 _) rfl iaX7 (by decide) aw639 rfl rfl dX7_add_32 ?_
  refine r_iconst (pc := 35) (v := 1) C dX7_add_35 (by decide) ?_
  refine r_iadd (pc := 36) C dX7_add_36 ?_
  refine r_topi (fun v7 ev7 => ?_)
  replace h := h v7 ev7
  refine r_put (pc := 37) (k := 32) (j := 4) (Cn := RX7) (T := TX7) (N := 5) (host := "") C (by decide) (ce32 _) rfl iaX7 (by decide) (ce32 _) tyX7_ok nmX7 aw639 rfl rfl (tyX7_ok 4 (by decide)) (Nat.le_of_ble_eq_true rfl) dX7_add_37 ?_
  refine r_topM (fun M8 eM8 => ?_)
  replace h := h M8 eM8
  exact r_vret (pc := 40) C dX7_add_40 h
theorem yd_X7_take : yX7_take.cls ≠ "java/lang/invoke/MethodHandle" ∧ yX7_take.cls ≠ "java/lang/invoke/VarHandle" ∧ (parseMethodDescriptor yX7_take.desc).map (fun d => d.parameters.length) = some 3 := by decide +kernel
def wB_X7_take_8 (k1 : Nat) (Q : Mem → Prop)  (R8 : Mem → Int32 → Int32 → Prop) (M : Mem) (x3 : Int32) (x4 : Int32) : Prop :=
  (((M k1 2) ≤ x4) → (Q M)) ∧ ((¬ (M k1 2) ≤ x4) → (w_X2_hold k1 M x3 x4 (fun M2 => w_X2_opens  M2  (fun r5 M4 => ((r5 = 0) → (∀ v7 : Int32, v7 = x4 + 1 → (R8 M4 x3 v7))) ∧ ((¬ r5 = 0) → (vp_in x4 6 ∧ (vp_in x4 6 ∧ (w_X7_add  M4 (M4 (k1 + 1) (Int32.toNatClampNeg x4)) (M4 (k1 + 2) (Int32.toNatClampNeg x4)) x4 (fun M10 => ∀ v12 : Int32, v12 = x4 + 1 → (R8 M10 x3 v12))))))))))
def wL_X7_take_8 (k1 : Nat) (Q : Mem → Prop)  : Nat → Mem → Int32 → Int32 → Prop
  | 0 => fun _ _ _ => False
  | n + 1 => fun M x3 x4 => wB_X7_take_8 k1 Q  (wL_X7_take_8 k1 Q  n) M x3 x4
theorem wL_X7_take_8_s {k1 : Nat} {Q : Mem → Prop}  {n : Nat} {M : Mem} {x3 : Int32} {x4 : Int32} (h : wL_X7_take_8 k1 Q  (n + 1) M x3 x4) : wB_X7_take_8 k1 Q  (wL_X7_take_8 k1 Q  n) M x3 x4 := h
def w_X7_take (k1 : Nat) (M : Mem) (x3 : Int32) (Q : Mem → Prop) : Prop :=
  ∀ M1 : Mem, M1 = ms M 32 4 0 → (∃ n2 : Nat, wL_X7_take_8 k1 Q  n2 M1 x3 0)
abbrev rm_X7_take : Room := { frames := 12, cells := 0, slots := 0, locals := 240 }
set_option maxHeartbeats 4000000 in
set_option maxRecDepth 100000 in
theorem c_X7_take (X : Cx) (k1 : Nat) (h1 : kd k1 = 6) (M : Mem) (x3 : Int32) (Q : Mem → Prop) (h : w_X7_take k1 M x3 Q) : Ct yX7_take cX7_take 5 none rm_X7_take X M [.ref (ad X 32), .ref (ad X k1), .ref (ad X 29), .int x3] (Qv X Q) := by
  refine ct_of (own := RX7) (lv := [(0, .ref (ad X 32)), (1, .ref (ad X k1)), (2, .ref (ad X 29)), (3, .int x3)]) rfl (by decide) (Nat.le_of_ble_eq_true rfl) rfl ?_
  intro K C
  have hL8 : ∀  (n : Nat) (M : Mem) (x3 : Int32) (x4 : Int32), wL_X7_take_8 k1 Q  n M x3 x4 → WX K X 5 (Qv X Q) M 8 [(0, .ref (ad X 32)), (1, .ref (ad X k1)), (2, .ref (ad X 29)), (3, .int x3), (4, .int x4)] [] := by
    intro  n
    induction n with
    | zero => intro M x3 x4 h; exact absurd h id
    | succ n ih =>
      intro M x3 x4 h
      replace h := wL_X7_take_8_s h
      unfold wB_X7_take_8 at h
      refine r_iload (pc := 8) C 4 dX7_take_8 rfl ?_
      refine r_aload_n (pc := 10) C 1 dX7_take_10 rfl ?_
      refine r_getN (pc := 11) (k := k1) (j := 2) (Cn := RX6) (T := TX6) (N := 16) C (bdT h1) (ceT h1 _) rfl iaX6 (by decide) nf8 rfl rfl dX7_take_11 ?_
      refine r_icmp_ge (pc := 14) (tgt := 58) C dX7_take_14 (by decide) (fun c1 => ?_) (fun c1 => ?_)
      · have h := h.1 c1
        exact r_vret (pc := 58) C dX7_take_58 h
      · have h := h.2 c1
        refine r_aload_n (pc := 17) C 2 dX7_take_17 rfl ?_
        refine r_aload_n (pc := 18) C 1 dX7_take_18 rfl ?_
        refine r_iload_n (pc := 19) C 3 dX7_take_19 rfl ?_
        refine r_iload (pc := 20) C 4 dX7_take_20 rfl ?_
        have hM := c_X2_hold X k1 h1 M x3 x4 _ h
        refine q_s0 (s1 := List.reverse [.ref (ad X k1), .int x3, .int x4] ++ .ref (ad X 29) :: []) rfl ?_
        refine r_callVNv (pc := 22) (k := 29) (As := [.ref (ad X k1), .int x3, .int x4]) (st := []) C 3 (by decide) (ce29 _) rfl aw428 aw429 hM nm43 aw430 aw34 yd_X2_hold ⟨rfl, rfl⟩ ⟨Nat.le_of_ble_eq_true rfl, Nat.le_of_ble_eq_true rfl⟩ rfl (Nat.le_of_ble_eq_true rfl) dX7_take_22 (fun M2 h => ?_)
        refine r_aload_n (pc := 25) C 2 dX7_take_25 rfl ?_
        have hM := c_X2_opens X  M2  _ h
        refine q_s0 (s1 := List.reverse [] ++ .ref (ad X 29) :: []) rfl ?_
        refine r_callVNi (pc := 26) (k := 29) (As := []) (st := []) C 0 (by decide) (ce29 _) rfl aw454 aw455 hM nm44 aw456 aw34 yd_X2_opens ⟨rfl, rfl⟩ ⟨Nat.le_of_ble_eq_true rfl, Nat.le_of_ble_eq_true rfl⟩ rfl (Nat.le_of_ble_eq_true rfl) dX7_take_26 (fun r5 M4 h => ?_)
        refine r_if_eq (pc := 29) (tgt := 52) C dX7_take_29 (by decide) (fun c6 => ?_) (fun c6 => ?_)
        · have h := h.1 c6
          obtain ⟨v7, ev7⟩ : ∃ z : Int32, z = x4 + 1 := ⟨_, rfl⟩
          replace h := h v7 ev7
          refine r_iinc (pc := 52) (v := v7) (lv2 := [(4, .int v7), (0, .ref (ad X 32)), (1, .ref (ad X k1)), (2, .ref (ad X 29)), (3, .int x3)]) C 4 dX7_take_52 rfl (by rw [ev7]; rfl) (by decide) rfl ?_
          refine r_goto (pc := 55) (tgt := 8) C dX7_take_55 (by decide) ?_
          refine r_sub (lv2 := [(0, .ref (ad X 32)), (1, .ref (ad X k1)), (2, .ref (ad X 29)), (3, .int x3), (4, .int v7)]) [1, 2, 3, 4, 0] rfl ?_
          exact ih _ _ _ h
        · have h := h.2 c6
          refine r_aload_n (pc := 32) C 0 dX7_take_32 rfl ?_
          refine r_aload_n (pc := 33) C 1 dX7_take_33 rfl ?_
          refine r_getN (pc := 34) (k := k1) (j := 6) (Cn := RX6) (T := TX6) (N := 16) C (bdT h1) (ceT h1 _) rfl iaX6 (by decide) nf20 rfl rfl dX7_take_34 ?_
          refine r_iload (pc := 37) C 4 dX7_take_37 rfl ?_
          obtain ⟨g8, h⟩ := h
          refine q_iald (pc := 39) (k := (k1 + 1)) (n := 6) (j := (Int32.toNatClampNeg x4)) C (bdT1 h1) (ceT1 h1 _) g8 rfl dX7_take_39 ?_
          refine r_aload_n (pc := 40) C 1 dX7_take_40 rfl ?_
          refine r_getN (pc := 41) (k := k1) (j := 7) (Cn := RX6) (T := TX6) (N := 16) C (bdT h1) (ceT h1 _) rfl iaX6 (by decide) nf22 rfl rfl dX7_take_41 ?_
          refine r_iload (pc := 44) C 4 dX7_take_44 rfl ?_
          obtain ⟨g9, h⟩ := h
          refine q_iald (pc := 46) (k := (k1 + 2)) (n := 6) (j := (Int32.toNatClampNeg x4)) C (bdT2 h1) (ceT2 h1 _) g9 rfl dX7_take_46 ?_
          refine r_iload (pc := 47) C 4 dX7_take_47 rfl ?_
          have hM := c_X7_add X  M4 (M4 (k1 + 1) (Int32.toNatClampNeg x4)) (M4 (k1 + 2) (Int32.toNatClampNeg x4)) x4 _ h
          refine q_s0 (s1 := List.reverse [.int (M4 (k1 + 1) (Int32.toNatClampNeg x4)), .int (M4 (k1 + 2) (Int32.toNatClampNeg x4)), .int x4] ++ .ref (ad X 32) :: []) rfl ?_
          refine r_callVv (pc := 49) (k := 32) (As := [.int (M4 (k1 + 1) (Int32.toNatClampNeg x4)), .int (M4 (k1 + 2) (Int32.toNatClampNeg x4)), .int x4]) (st := []) C 3 (by decide) (ce32 _) rfl aw641 aw642 hM aw640 aw643 aw38 yd_X7_add ⟨rfl, rfl⟩ ⟨Nat.le_of_ble_eq_true rfl, Nat.le_of_ble_eq_true rfl⟩ rfl (Nat.le_of_ble_eq_true rfl) dX7_take_49 (fun M10 h => ?_)
          obtain ⟨v12, ev12⟩ : ∃ z : Int32, z = x4 + 1 := ⟨_, rfl⟩
          replace h := h v12 ev12
          refine r_iinc (pc := 52) (v := v12) (lv2 := [(4, .int v12), (0, .ref (ad X 32)), (1, .ref (ad X k1)), (2, .ref (ad X 29)), (3, .int x3)]) C 4 dX7_take_52 rfl (by rw [ev12]; rfl) (by decide) rfl ?_
          refine r_goto (pc := 55) (tgt := 8) C dX7_take_55 (by decide) ?_
          refine r_sub (lv2 := [(0, .ref (ad X 32)), (1, .ref (ad X k1)), (2, .ref (ad X 29)), (3, .int x3), (4, .int v12)]) [1, 2, 3, 4, 0] rfl ?_
          exact ih _ _ _ h
  unfold w_X7_take at h
  refine r_aload_n (pc := 0) C 0 dX7_take_0 rfl ?_
  refine r_iconst (pc := 1) (v := 0) C dX7_take_1 (by decide) ?_
  refine r_put (pc := 2) (k := 32) (j := 4) (Cn := RX7) (T := TX7) (N := 5) (host := "") C (by decide) (ce32 _) rfl iaX7 (by decide) (ce32 _) tyX7_ok nmX7 aw639 rfl rfl (tyX7_ok 4 (by decide)) (Nat.le_of_ble_eq_true rfl) dX7_take_2 ?_
  refine r_topM (fun M1 eM1 => ?_)
  replace h := h M1 eM1
  refine r_iconst (pc := 5) (v := 0) C dX7_take_5 (by decide) ?_
  refine r_istore (pc := 6) (lv2 := [(4, .int 0), (0, .ref (ad X 32)), (1, .ref (ad X k1)), (2, .ref (ad X 29)), (3, .int x3)]) C dX7_take_6 (by decide) rfl ?_
  obtain ⟨n2, h⟩ := h
  refine r_sub (lv2 := [(0, .ref (ad X 32)), (1, .ref (ad X k1)), (2, .ref (ad X 29)), (3, .int x3), (4, .int 0)]) [1, 2, 3, 4, 0] rfl ?_
  exact hL8  _ _ _ _ h
theorem yd_X7_spread : yX7_spread.cls ≠ "java/lang/invoke/MethodHandle" ∧ yX7_spread.cls ≠ "java/lang/invoke/VarHandle" ∧ (parseMethodDescriptor yX7_spread.desc).map (fun d => d.parameters.length) = some 3 := by decide +kernel
def w_X7_spread  (M : Mem) (x1 : Int32) (x2 : Int32) (x3 : Int32) (Q : Mem → Prop) : Prop :=
  vp_in x1 6 ∧ (((¬ (M 36 (Int32.toNatClampNeg x1)) = (x3 - 1)) → (Q M)) ∧ (((M 36 (Int32.toNatClampNeg x1)) = (x3 - 1)) → (vp_in x2 6 ∧ (((¬ (M 36 (Int32.toNatClampNeg x2)) = (-1000000)) → (Q M)) ∧ (((M 36 (Int32.toNatClampNeg x2)) = (-1000000)) → (vp_in x2 6 ∧ (∀ M6 : Mem, M6 = ms M 36 (Int32.toNatClampNeg x2) x3 → (Q M6))))))))
abbrev rm_X7_spread : Room := { frames := 3, cells := 0, slots := 0, locals := 60 }
set_option maxHeartbeats 4000000 in
set_option maxRecDepth 100000 in
theorem c_X7_spread (X : Cx)  (M : Mem) (x1 : Int32) (x2 : Int32) (x3 : Int32) (Q : Mem → Prop) (h : w_X7_spread  M x1 x2 x3 Q) : Ct yX7_spread cX7_spread 4 none rm_X7_spread X M [.ref (ad X 32), .int x1, .int x2, .int x3] (Qv X Q) := by
  refine ct_of (own := RX7) (lv := [(0, .ref (ad X 32)), (1, .int x1), (2, .int x2), (3, .int x3)]) rfl (by decide) (Nat.le_of_ble_eq_true rfl) rfl ?_
  intro K C
  unfold w_X7_spread at h
  refine r_aload_n (pc := 0) C 0 dX7_spread_0 rfl ?_
  refine r_get (pc := 1) (k := 32) (j := 3) (Cn := RX7) (T := TX7) (N := 5) C (by decide) (ce32 _) rfl iaX7 (by decide) aw87 rfl rfl dX7_spread_1 ?_
  refine r_iload_n (pc := 4) C 1 dX7_spread_4 rfl ?_
  obtain ⟨g1, h⟩ := h
  refine q_iald (pc := 5) (k := 36) (n := 6) (j := (Int32.toNatClampNeg x1)) C (by decide) (ce36 _) g1 rfl dX7_spread_5 ?_
  refine r_iload_n (pc := 6) C 3 dX7_spread_6 rfl ?_
  refine r_iconst (pc := 7) (v := 1) C dX7_spread_7 (by decide) ?_
  refine r_isub (pc := 8) C dX7_spread_8 ?_
  refine r_icmp_ne (pc := 9) (tgt := 30) C dX7_spread_9 (by decide) (fun c2 => ?_) (fun c2 => ?_)
  · have h := h.1 c2
    exact r_vret (pc := 30) C dX7_spread_30 h
  · have h := h.2 c2
    refine r_aload_n (pc := 12) C 0 dX7_spread_12 rfl ?_
    refine r_get (pc := 13) (k := 32) (j := 3) (Cn := RX7) (T := TX7) (N := 5) C (by decide) (ce32 _) rfl iaX7 (by decide) aw87 rfl rfl dX7_spread_13 ?_
    refine r_iload_n (pc := 16) C 2 dX7_spread_16 rfl ?_
    obtain ⟨g3, h⟩ := h
    refine q_iald (pc := 17) (k := 36) (n := 6) (j := (Int32.toNatClampNeg x2)) C (by decide) (ce36 _) g3 rfl dX7_spread_17 ?_
    refine r_ldc (pc := 18) C aw647 dX7_spread_18 ?_
    refine r_icmp_ne (pc := 20) (tgt := 30) C dX7_spread_20 (by decide) (fun c4 => ?_) (fun c4 => ?_)
    · have h := h.1 c4
      exact r_vret (pc := 30) C dX7_spread_30 h
    · have h := h.2 c4
      refine r_aload_n (pc := 23) C 0 dX7_spread_23 rfl ?_
      refine r_get (pc := 24) (k := 32) (j := 3) (Cn := RX7) (T := TX7) (N := 5) C (by decide) (ce32 _) rfl iaX7 (by decide) aw87 rfl rfl dX7_spread_24 ?_
      refine r_iload_n (pc := 27) C 2 dX7_spread_27 rfl ?_
      refine r_iload_n (pc := 28) C 3 dX7_spread_28 rfl ?_
      obtain ⟨g5, h⟩ := h
      refine q_iast (pc := 29) (k := 36) (n := 6) (j := (Int32.toNatClampNeg x2)) C (by decide) (ce36) g5 rfl dX7_spread_29 ?_
      refine r_topM (fun M6 eM6 => ?_)
      replace h := h M6 eM6
      exact r_vret (pc := 30) C dX7_spread_30 h
theorem yd_X7_measureFrom : yX7_measureFrom.cls ≠ "java/lang/invoke/MethodHandle" ∧ yX7_measureFrom.cls ≠ "java/lang/invoke/VarHandle" ∧ (parseMethodDescriptor yX7_measureFrom.desc).map (fun d => d.parameters.length) = some 1 := by decide +kernel
def wB_X7_measureFrom_26  (Q : Mem → Prop) (R18 : Mem → Int32 → Prop) (R26 : Mem → Int32 → Int32 → Prop) (M : Mem) (x2 : Int32) (x3 : Int32) : Prop :=
  (((M 32 4) ≤ x3) → (∀ v2 : Int32, v2 = x2 + 1 → (R18 M v2))) ∧ ((¬ (M 32 4) ≤ x3) → (vp_in x3 7 ∧ (vp_in x3 7 ∧ (w_X7_spread  M (M 33 (Int32.toNatClampNeg x3)) (M 34 (Int32.toNatClampNeg x3)) x2 (fun M5 => vp_in x3 7 ∧ (vp_in x3 7 ∧ (w_X7_spread  M5 (M5 34 (Int32.toNatClampNeg x3)) (M5 33 (Int32.toNatClampNeg x3)) x2 (fun M9 => ∀ v11 : Int32, v11 = x3 + 1 → (R26 M9 x2 v11)))))))))
def wL_X7_measureFrom_26  (Q : Mem → Prop) (R18 : Mem → Int32 → Prop) : Nat → Mem → Int32 → Int32 → Prop
  | 0 => fun _ _ _ => False
  | n + 1 => fun M x2 x3 => wB_X7_measureFrom_26  Q R18 (wL_X7_measureFrom_26  Q R18 n) M x2 x3
theorem wL_X7_measureFrom_26_s  {Q : Mem → Prop} {R18 : Mem → Int32 → Prop} {n : Nat} {M : Mem} {x2 : Int32} {x3 : Int32} (h : wL_X7_measureFrom_26  Q R18 (n + 1) M x2 x3) : wB_X7_measureFrom_26  Q R18 (wL_X7_measureFrom_26  Q R18 n) M x2 x3 := h
def wB_X7_measureFrom_18  (Q : Mem → Prop)  (R18 : Mem → Int32 → Prop) (M : Mem) (x2 : Int32) : Prop :=
  ((6 ≤ x2) → (Q M)) ∧ ((¬ 6 ≤ x2) → (∃ n2 : Nat, wL_X7_measureFrom_26  Q R18 n2 M x2 0))
def wL_X7_measureFrom_18  (Q : Mem → Prop)  : Nat → Mem → Int32 → Prop
  | 0 => fun _ _ => False
  | n + 1 => fun M x2 => wB_X7_measureFrom_18  Q  (wL_X7_measureFrom_18  Q  n) M x2
theorem wL_X7_measureFrom_18_s  {Q : Mem → Prop}  {n : Nat} {M : Mem} {x2 : Int32} (h : wL_X7_measureFrom_18  Q  (n + 1) M x2) : wB_X7_measureFrom_18  Q  (wL_X7_measureFrom_18  Q  n) M x2 := h
def w_X7_measureFrom  (M : Mem) (x1 : Int32) (Q : Mem → Prop) : Prop :=
  w_J7_fill_53178 36 M (-1000000) (fun M1 => vp_in x1 6 ∧ (∀ M4 : Mem, M4 = ms M1 36 (Int32.toNatClampNeg x1) 0 → (∃ n5 : Nat, wL_X7_measureFrom_18  Q  n5 M4 1)))
abbrev rm_X7_measureFrom : Room := { frames := 6, cells := 0, slots := 0, locals := 120 }
set_option maxHeartbeats 4000000 in
set_option maxRecDepth 100000 in
theorem c_X7_measureFrom (X : Cx)  (M : Mem) (x1 : Int32) (Q : Mem → Prop) (h : w_X7_measureFrom  M x1 Q) : Ct yX7_measureFrom cX7_measureFrom 4 none rm_X7_measureFrom X M [.ref (ad X 32), .int x1] (Qv X Q) := by
  refine ct_of (own := RX7) (lv := [(0, .ref (ad X 32)), (1, .int x1)]) rfl (by decide) (Nat.le_of_ble_eq_true rfl) rfl ?_
  intro K C
  have hL26 : ∀ (R18 : Mem → Int32 → Prop) (hR18 : ∀ (M : Mem) (x2 : Int32), R18 M x2 → WX K X 4 (Qv X Q) M 18 [(0, .ref (ad X 32)), (2, .int x2)] []) (n : Nat) (M : Mem) (x2 : Int32) (x3 : Int32), wL_X7_measureFrom_26  Q R18 n M x2 x3 → WX K X 4 (Qv X Q) M 26 [(0, .ref (ad X 32)), (2, .int x2), (3, .int x3)] [] := by
    intro R18 hR18 n
    induction n with
    | zero => intro M x2 x3 h; exact absurd h id
    | succ n ih =>
      intro M x2 x3 h
      replace h := wL_X7_measureFrom_26_s h
      unfold wB_X7_measureFrom_26 at h
      refine r_iload_n (pc := 26) C 2 dX7_measureFrom_26 rfl ?_
      refine r_aload_n (pc := 27) C 0 dX7_measureFrom_27 rfl ?_
      refine r_get (pc := 28) (k := 32) (j := 4) (Cn := RX7) (T := TX7) (N := 5) C (by decide) (ce32 _) rfl iaX7 (by decide) aw639 rfl rfl dX7_measureFrom_28 ?_
      refine r_icmp_ge (pc := 31) (tgt := 74) C dX7_measureFrom_31 (by decide) (fun c1 => ?_) (fun c1 => ?_)
      · have h := h.1 c1
        obtain ⟨v2, ev2⟩ : ∃ z : Int32, z = x2 + 1 := ⟨_, rfl⟩
        replace h := h v2 ev2
        refine r_iinc (pc := 74) (v := v2) (lv2 := [(2, .int v2), (0, .ref (ad X 32)), (3, .int x3)]) C 1 dX7_measureFrom_74 rfl (by rw [ev2]; rfl) (by decide) rfl ?_
        refine r_goto (pc := 77) (tgt := 18) C dX7_measureFrom_77 (by decide) ?_
        refine r_sub (lv2 := [(0, .ref (ad X 32)), (2, .int v2)]) [1, 0] rfl ?_
        exact hR18 _ _ h
      · have h := h.2 c1
        refine r_aload_n (pc := 34) C 0 dX7_measureFrom_34 rfl ?_
        refine r_aload_n (pc := 35) C 0 dX7_measureFrom_35 rfl ?_
        refine r_get (pc := 36) (k := 32) (j := 0) (Cn := RX7) (T := TX7) (N := 5) C (by decide) (ce32 _) rfl iaX7 (by decide) aw84 rfl rfl dX7_measureFrom_36 ?_
        refine r_iload_n (pc := 39) C 2 dX7_measureFrom_39 rfl ?_
        obtain ⟨g3, h⟩ := h
        refine q_iald (pc := 40) (k := 33) (n := 7) (j := (Int32.toNatClampNeg x3)) C (by decide) (ce33 _) g3 rfl dX7_measureFrom_40 ?_
        refine r_aload_n (pc := 41) C 0 dX7_measureFrom_41 rfl ?_
        refine r_get (pc := 42) (k := 32) (j := 1) (Cn := RX7) (T := TX7) (N := 5) C (by decide) (ce32 _) rfl iaX7 (by decide) aw85 rfl rfl dX7_measureFrom_42 ?_
        refine r_iload_n (pc := 45) C 2 dX7_measureFrom_45 rfl ?_
        obtain ⟨g4, h⟩ := h
        refine q_iald (pc := 46) (k := 34) (n := 7) (j := (Int32.toNatClampNeg x3)) C (by decide) (ce34 _) g4 rfl dX7_measureFrom_46 ?_
        refine r_iload_n (pc := 47) C 1 dX7_measureFrom_47 rfl ?_
        have hM := c_X7_spread X  M (M 33 (Int32.toNatClampNeg x3)) (M 34 (Int32.toNatClampNeg x3)) x2 _ h
        refine q_s0 (s1 := List.reverse [.int (M 33 (Int32.toNatClampNeg x3)), .int (M 34 (Int32.toNatClampNeg x3)), .int x2] ++ .ref (ad X 32) :: []) rfl ?_
        refine r_callVv (pc := 48) (k := 32) (As := [.int (M 33 (Int32.toNatClampNeg x3)), .int (M 34 (Int32.toNatClampNeg x3)), .int x2]) (st := []) C 3 (by decide) (ce32 _) rfl aw650 aw651 hM aw649 aw652 aw38 yd_X7_spread ⟨rfl, rfl⟩ ⟨Nat.le_of_ble_eq_true rfl, Nat.le_of_ble_eq_true rfl⟩ rfl (Nat.le_of_ble_eq_true rfl) dX7_measureFrom_48 (fun M5 h => ?_)
        refine r_aload_n (pc := 51) C 0 dX7_measureFrom_51 rfl ?_
        refine r_aload_n (pc := 52) C 0 dX7_measureFrom_52 rfl ?_
        refine r_get (pc := 53) (k := 32) (j := 1) (Cn := RX7) (T := TX7) (N := 5) C (by decide) (ce32 _) rfl iaX7 (by decide) aw85 rfl rfl dX7_measureFrom_53 ?_
        refine r_iload_n (pc := 56) C 2 dX7_measureFrom_56 rfl ?_
        obtain ⟨g7, h⟩ := h
        refine q_iald (pc := 57) (k := 34) (n := 7) (j := (Int32.toNatClampNeg x3)) C (by decide) (ce34 _) g7 rfl dX7_measureFrom_57 ?_
        refine r_aload_n (pc := 58) C 0 dX7_measureFrom_58 rfl ?_
        refine r_get (pc := 59) (k := 32) (j := 0) (Cn := RX7) (T := TX7) (N := 5) C (by decide) (ce32 _) rfl iaX7 (by decide) aw84 rfl rfl dX7_measureFrom_59 ?_
        refine r_iload_n (pc := 62) C 2 dX7_measureFrom_62 rfl ?_
        obtain ⟨g8, h⟩ := h
        refine q_iald (pc := 63) (k := 33) (n := 7) (j := (Int32.toNatClampNeg x3)) C (by decide) (ce33 _) g8 rfl dX7_measureFrom_63 ?_
        refine r_iload_n (pc := 64) C 1 dX7_measureFrom_64 rfl ?_
        have hM := c_X7_spread X  M5 (M5 34 (Int32.toNatClampNeg x3)) (M5 33 (Int32.toNatClampNeg x3)) x2 _ h
        refine q_s0 (s1 := List.reverse [.int (M5 34 (Int32.toNatClampNeg x3)), .int (M5 33 (Int32.toNatClampNeg x3)), .int x2] ++ .ref (ad X 32) :: []) rfl ?_
        refine r_callVv (pc := 65) (k := 32) (As := [.int (M5 34 (Int32.toNatClampNeg x3)), .int (M5 33 (Int32.toNatClampNeg x3)), .int x2]) (st := []) C 3 (by decide) (ce32 _) rfl aw650 aw651 hM aw649 aw652 aw38 yd_X7_spread ⟨rfl, rfl⟩ ⟨Nat.le_of_ble_eq_true rfl, Nat.le_of_ble_eq_true rfl⟩ rfl (Nat.le_of_ble_eq_true rfl) dX7_measureFrom_65 (fun M9 h => ?_)
        obtain ⟨v11, ev11⟩ : ∃ z : Int32, z = x3 + 1 := ⟨_, rfl⟩
        replace h := h v11 ev11
        refine r_iinc (pc := 68) (v := v11) (lv2 := [(3, .int v11), (0, .ref (ad X 32)), (2, .int x2)]) C 2 dX7_measureFrom_68 rfl (by rw [ev11]; rfl) (by decide) rfl ?_
        refine r_goto (pc := 71) (tgt := 26) C dX7_measureFrom_71 (by decide) ?_
        refine r_sub (lv2 := [(0, .ref (ad X 32)), (2, .int x2), (3, .int v11)]) [1, 2, 0] rfl ?_
        exact ih _ _ _ h
  have hL18 : ∀  (n : Nat) (M : Mem) (x2 : Int32), wL_X7_measureFrom_18  Q  n M x2 → WX K X 4 (Qv X Q) M 18 [(0, .ref (ad X 32)), (2, .int x2)] [] := by
    intro  n
    induction n with
    | zero => intro M x2 h; exact absurd h id
    | succ n ih =>
      intro M x2 h
      replace h := wL_X7_measureFrom_18_s h
      unfold wB_X7_measureFrom_18 at h
      refine r_iload_n (pc := 18) C 1 dX7_measureFrom_18 rfl ?_
      refine r_bipush (pc := 19) (v := 6) C dX7_measureFrom_19 (by decide) ?_
      refine r_icmp_ge (pc := 21) (tgt := 80) C dX7_measureFrom_21 (by decide) (fun c1 => ?_) (fun c1 => ?_)
      · have h := h.1 c1
        exact r_vret (pc := 80) C dX7_measureFrom_80 h
      · have h := h.2 c1
        refine r_iconst (pc := 24) (v := 0) C dX7_measureFrom_24 (by decide) ?_
        refine r_istore_n (pc := 25) (lv2 := [(3, .int 0), (0, .ref (ad X 32)), (2, .int x2)]) C dX7_measureFrom_25 (by decide) rfl ?_
        obtain ⟨n2, h⟩ := h
        refine r_sub (lv2 := [(0, .ref (ad X 32)), (2, .int x2), (3, .int 0)]) [1, 2, 0] rfl ?_
        exact hL26 _ ih _ _ _ _ h
  unfold w_X7_measureFrom at h
  refine r_aload_n (pc := 0) C 0 dX7_measureFrom_0 rfl ?_
  refine r_get (pc := 1) (k := 32) (j := 3) (Cn := RX7) (T := TX7) (N := 5) C (by decide) (ce32 _) rfl iaX7 (by decide) aw87 rfl rfl dX7_measureFrom_1 ?_
  refine r_ldc (pc := 4) C aw647 dX7_measureFrom_4 ?_
  have hM := c_J7_fill_53178 X 36 rfl M (-1000000) _ h
  refine q_s0 (s1 := List.reverse [.ref (ad X 36), .int (-1000000)] ++ []) rfl ?_
  refine r_callSv (pc := 6) (As := [.ref (ad X 36), .int (-1000000)]) (st := []) C 2 hM aw648 aw130 aw132 aw131 yd_J7_fill_53178 ⟨rfl, rfl⟩ ⟨Nat.le_of_ble_eq_true rfl, Nat.le_of_ble_eq_true rfl⟩ rfl (Nat.le_of_ble_eq_true rfl) dX7_measureFrom_6 (fun M1 h => ?_)
  refine r_aload_n (pc := 9) C 0 dX7_measureFrom_9 rfl ?_
  refine r_get (pc := 10) (k := 32) (j := 3) (Cn := RX7) (T := TX7) (N := 5) C (by decide) (ce32 _) rfl iaX7 (by decide) aw87 rfl rfl dX7_measureFrom_10 ?_
  refine r_iload_n (pc := 13) C 1 dX7_measureFrom_13 rfl ?_
  refine r_iconst (pc := 14) (v := 0) C dX7_measureFrom_14 (by decide) ?_
  obtain ⟨g3, h⟩ := h
  refine q_iast (pc := 15) (k := 36) (n := 6) (j := (Int32.toNatClampNeg x1)) C (by decide) (ce36) g3 rfl dX7_measureFrom_15 ?_
  refine r_topM (fun M4 eM4 => ?_)
  replace h := h M4 eM4
  refine r_iconst (pc := 16) (v := 1) C dX7_measureFrom_16 (by decide) ?_
  refine r_istore_n (pc := 17) (lv2 := [(2, .int 1), (0, .ref (ad X 32)), (1, .int x1)]) C dX7_measureFrom_17 (by decide) rfl ?_
  obtain ⟨n5, h⟩ := h
  refine r_sub (lv2 := [(0, .ref (ad X 32)), (2, .int 1)]) [1, 0] rfl ?_
  exact hL18  _ _ _ h
theorem yd_X7_roomsMeasured : yX7_roomsMeasured.cls ≠ "java/lang/invoke/MethodHandle" ∧ yX7_roomsMeasured.cls ≠ "java/lang/invoke/VarHandle" ∧ (parseMethodDescriptor yX7_roomsMeasured.desc).map (fun d => d.parameters.length) = some 0 := by decide +kernel
def wB_X7_roomsMeasured_4  (Q : Int32 → Mem → Prop)  (R4 : Mem → Int32 → Int32 → Prop) (M : Mem) (x1 : Int32) (x2 : Int32) : Prop :=
  ((6 ≤ x2) → (Q x1 M)) ∧ ((¬ 6 ≤ x2) → (vp_in x2 6 ∧ ((((M 36 (Int32.toNatClampNeg x2)) = (-1000000)) → (∀ v4 : Int32, v4 = x2 + 1 → (R4 M x1 v4))) ∧ ((¬ (M 36 (Int32.toNatClampNeg x2)) = (-1000000)) → (∀ v5 : Int32, v5 = (x1 ||| (1 <<< (x2 &&& 31))) → (∀ v6 : Int32, v6 = x2 + 1 → (R4 M v5 v6)))))))
def wL_X7_roomsMeasured_4  (Q : Int32 → Mem → Prop)  : Nat → Mem → Int32 → Int32 → Prop
  | 0 => fun _ _ _ => False
  | n + 1 => fun M x1 x2 => wB_X7_roomsMeasured_4  Q  (wL_X7_roomsMeasured_4  Q  n) M x1 x2
theorem wL_X7_roomsMeasured_4_s  {Q : Int32 → Mem → Prop}  {n : Nat} {M : Mem} {x1 : Int32} {x2 : Int32} (h : wL_X7_roomsMeasured_4  Q  (n + 1) M x1 x2) : wB_X7_roomsMeasured_4  Q  (wL_X7_roomsMeasured_4  Q  n) M x1 x2 := h
def w_X7_roomsMeasured  (M : Mem)  (Q : Int32 → Mem → Prop) : Prop :=
  ∃ n1 : Nat, wL_X7_roomsMeasured_4  Q  n1 M 0 0
abbrev rm_X7_roomsMeasured : Room := { frames := 3, cells := 0, slots := 0, locals := 60 }
set_option maxHeartbeats 4000000 in
set_option maxRecDepth 100000 in
theorem c_X7_roomsMeasured (X : Cx)  (M : Mem)  (Q : Int32 → Mem → Prop) (h : w_X7_roomsMeasured  M  Q) : Ct yX7_roomsMeasured cX7_roomsMeasured 3 (some .int) rm_X7_roomsMeasured X M [.ref (ad X 32)] (Qi X Q) := by
  refine ct_of (own := RX7) (lv := [(0, .ref (ad X 32))]) rfl (by decide) (Nat.le_of_ble_eq_true rfl) rfl ?_
  intro K C
  have hL4 : ∀  (n : Nat) (M : Mem) (x1 : Int32) (x2 : Int32), wL_X7_roomsMeasured_4  Q  n M x1 x2 → WX K X 3 (Qi X Q) M 4 [(0, .ref (ad X 32)), (1, .int x1), (2, .int x2)] [] := by
    intro  n
    induction n with
    | zero => intro M x1 x2 h; exact absurd h id
    | succ n ih =>
      intro M x1 x2 h
      replace h := wL_X7_roomsMeasured_4_s h
      unfold wB_X7_roomsMeasured_4 at h
      refine r_iload_n (pc := 4) C 2 dX7_roomsMeasured_4 rfl ?_
      refine r_bipush (pc := 5) (v := 6) C dX7_roomsMeasured_5 (by decide) ?_
      refine r_icmp_ge (pc := 7) (tgt := 33) C dX7_roomsMeasured_7 (by decide) (fun c1 => ?_) (fun c1 => ?_)
      · have h := h.1 c1
        refine r_iload_n (pc := 33) C 1 dX7_roomsMeasured_33 rfl ?_
        exact r_iret (pc := 34) C dX7_roomsMeasured_34 h
      · have h := h.2 c1
        refine r_aload_n (pc := 10) C 0 dX7_roomsMeasured_10 rfl ?_
        refine r_get (pc := 11) (k := 32) (j := 3) (Cn := RX7) (T := TX7) (N := 5) C (by decide) (ce32 _) rfl iaX7 (by decide) aw87 rfl rfl dX7_roomsMeasured_11 ?_
        refine r_iload_n (pc := 14) C 2 dX7_roomsMeasured_14 rfl ?_
        obtain ⟨g2, h⟩ := h
        refine q_iald (pc := 15) (k := 36) (n := 6) (j := (Int32.toNatClampNeg x2)) C (by decide) (ce36 _) g2 rfl dX7_roomsMeasured_15 ?_
        refine r_ldc (pc := 16) C aw647 dX7_roomsMeasured_16 ?_
        refine r_icmp_eq (pc := 18) (tgt := 27) C dX7_roomsMeasured_18 (by decide) (fun c3 => ?_) (fun c3 => ?_)
        · have h := h.1 c3
          obtain ⟨v4, ev4⟩ : ∃ z : Int32, z = x2 + 1 := ⟨_, rfl⟩
          replace h := h v4 ev4
          refine r_iinc (pc := 27) (v := v4) (lv2 := [(2, .int v4), (0, .ref (ad X 32)), (1, .int x1)]) C 2 dX7_roomsMeasured_27 rfl (by rw [ev4]; rfl) (by decide) rfl ?_
          refine r_goto (pc := 30) (tgt := 4) C dX7_roomsMeasured_30 (by decide) ?_
          refine r_sub (lv2 := [(0, .ref (ad X 32)), (1, .int x1), (2, .int v4)]) [1, 2, 0] rfl ?_
          exact ih _ _ _ h
        · have h := h.2 c3
          refine r_iload_n (pc := 21) C 1 dX7_roomsMeasured_21 rfl ?_
          refine r_iconst (pc := 22) (v := 1) C dX7_roomsMeasured_22 (by decide) ?_
          refine r_iload_n (pc := 23) C 2 dX7_roomsMeasured_23 rfl ?_
          refine r_ishl (pc := 24) C dX7_roomsMeasured_24 ?_
          refine r_ior (pc := 25) C dX7_roomsMeasured_25 ?_
          refine r_topi (fun v5 ev5 => ?_)
          replace h := h v5 ev5
          refine r_istore_n (pc := 26) (lv2 := [(1, .int v5), (0, .ref (ad X 32)), (2, .int x2)]) C dX7_roomsMeasured_26 (by decide) rfl ?_
          obtain ⟨v6, ev6⟩ : ∃ z : Int32, z = x2 + 1 := ⟨_, rfl⟩
          replace h := h v6 ev6
          refine r_iinc (pc := 27) (v := v6) (lv2 := [(2, .int v6), (1, .int v5), (0, .ref (ad X 32))]) C 2 dX7_roomsMeasured_27 rfl (by rw [ev6]; rfl) (by decide) rfl ?_
          refine r_goto (pc := 30) (tgt := 4) C dX7_roomsMeasured_30 (by decide) ?_
          refine r_sub (lv2 := [(0, .ref (ad X 32)), (1, .int v5), (2, .int v6)]) [2, 1, 0] rfl ?_
          exact ih _ _ _ h
  unfold w_X7_roomsMeasured at h
  refine r_iconst (pc := 0) (v := 0) C dX7_roomsMeasured_0 (by decide) ?_
  refine r_istore_n (pc := 1) (lv2 := [(1, .int 0), (0, .ref (ad X 32))]) C dX7_roomsMeasured_1 (by decide) rfl ?_
  refine r_iconst (pc := 2) (v := 0) C dX7_roomsMeasured_2 (by decide) ?_
  refine r_istore_n (pc := 3) (lv2 := [(2, .int 0), (1, .int 0), (0, .ref (ad X 32))]) C dX7_roomsMeasured_3 (by decide) rfl ?_
  obtain ⟨n1, h⟩ := h
  refine r_sub (lv2 := [(0, .ref (ad X 32)), (1, .int 0), (2, .int 0)]) [2, 1, 0] rfl ?_
  exact hL4  _ _ _ _ h
theorem yd_X7_firstDoorFrom : yX7_firstDoorFrom.cls ≠ "java/lang/invoke/MethodHandle" ∧ yX7_firstDoorFrom.cls ≠ "java/lang/invoke/VarHandle" ∧ (parseMethodDescriptor yX7_firstDoorFrom.desc).map (fun d => d.parameters.length) = some 1 := by decide +kernel
def wJ_X7_firstDoorFrom_81  (Q : Int32 → Mem → Prop) (R11 : Mem → Int32 → Int32 → Int32 → Prop) (M : Mem) (x1 : Int32) (x2 : Int32) (x3 : Int32) (x4 : Int32) (s0 : Int32) : Prop :=
  ((¬ x4 = 0) → (vp_in x3 7 ∧ (Q (M 35 (Int32.toNatClampNeg x3)) M))) ∧ ((x4 = 0) → (((s0 = 0) → (∀ v4 : Int32, v4 = x3 + 1 → (R11 M x1 x2 v4))) ∧ ((¬ s0 = 0) → (vp_in x3 7 ∧ (Q (M 35 (Int32.toNatClampNeg x3)) M)))))
def wJ_X7_firstDoorFrom_80  (Q : Int32 → Mem → Prop) (R11 : Mem → Int32 → Int32 → Int32 → Prop) (M : Mem) (x1 : Int32) (x2 : Int32) (x3 : Int32) (x4 : Int32) : Prop :=
  wJ_X7_firstDoorFrom_81  Q R11 M x1 x2 x3 x4 0
def wJ_X7_firstDoorFrom_49  (Q : Int32 → Mem → Prop) (R11 : Mem → Int32 → Int32 → Int32 → Prop) (M : Mem) (x1 : Int32) (x2 : Int32) (x3 : Int32) (s0 : Int32) : Prop :=
  vp_in x3 7 ∧ (((¬ (M 34 (Int32.toNatClampNeg x3)) = x1) → (wJ_X7_firstDoorFrom_80  Q R11 M x1 x2 x3 s0)) ∧ (((M 34 (Int32.toNatClampNeg x3)) = x1) → (vp_in x3 7 ∧ (∀ v4 : Int32, v4 = (M 33 (Int32.toNatClampNeg x3)) → (vp_in v4 6 ∧ (((¬ (M 36 (Int32.toNatClampNeg v4)) = x2) → (wJ_X7_firstDoorFrom_80  Q R11 M x1 x2 x3 s0)) ∧ (((M 36 (Int32.toNatClampNeg v4)) = x2) → (wJ_X7_firstDoorFrom_81  Q R11 M x1 x2 x3 s0 1))))))))
def wJ_X7_firstDoorFrom_48  (Q : Int32 → Mem → Prop) (R11 : Mem → Int32 → Int32 → Int32 → Prop) (M : Mem) (x1 : Int32) (x2 : Int32) (x3 : Int32) : Prop :=
  wJ_X7_firstDoorFrom_49  Q R11 M x1 x2 x3 0
def wB_X7_firstDoorFrom_11  (Q : Int32 → Mem → Prop)  (R11 : Mem → Int32 → Int32 → Int32 → Prop) (M : Mem) (x1 : Int32) (x2 : Int32) (x3 : Int32) : Prop :=
  (((M 32 4) ≤ x3) → (Q (-1000000) M)) ∧ ((¬ (M 32 4) ≤ x3) → (vp_in x3 7 ∧ (((¬ (M 33 (Int32.toNatClampNeg x3)) = x1) → (wJ_X7_firstDoorFrom_48  Q R11 M x1 x2 x3)) ∧ (((M 33 (Int32.toNatClampNeg x3)) = x1) → (vp_in x3 7 ∧ (∀ v5 : Int32, v5 = (M 34 (Int32.toNatClampNeg x3)) → (vp_in v5 6 ∧ (((¬ (M 36 (Int32.toNatClampNeg v5)) = x2) → (wJ_X7_firstDoorFrom_48  Q R11 M x1 x2 x3)) ∧ (((M 36 (Int32.toNatClampNeg v5)) = x2) → (wJ_X7_firstDoorFrom_49  Q R11 M x1 x2 x3 1))))))))))
def wL_X7_firstDoorFrom_11  (Q : Int32 → Mem → Prop)  : Nat → Mem → Int32 → Int32 → Int32 → Prop
  | 0 => fun _ _ _ _ => False
  | n + 1 => fun M x1 x2 x3 => wB_X7_firstDoorFrom_11  Q  (wL_X7_firstDoorFrom_11  Q  n) M x1 x2 x3
theorem wL_X7_firstDoorFrom_11_s  {Q : Int32 → Mem → Prop}  {n : Nat} {M : Mem} {x1 : Int32} {x2 : Int32} {x3 : Int32} (h : wL_X7_firstDoorFrom_11  Q  (n + 1) M x1 x2 x3) : wB_X7_firstDoorFrom_11  Q  (wL_X7_firstDoorFrom_11  Q  n) M x1 x2 x3 := h
def w_X7_firstDoorFrom  (M : Mem) (x1 : Int32) (Q : Int32 → Mem → Prop) : Prop :=
  vp_in x1 6 ∧ (∀ v2 : Int32, v2 = ((M 36 (Int32.toNatClampNeg x1)) - 1) → (∃ n3 : Nat, wL_X7_firstDoorFrom_11  Q  n3 M x1 v2 0))
abbrev rm_X7_firstDoorFrom : Room := { frames := 3, cells := 0, slots := 0, locals := 60 }
set_option maxHeartbeats 4000000 in
set_option maxRecDepth 100000 in
theorem c_X7_firstDoorFrom (X : Cx)  (M : Mem) (x1 : Int32) (Q : Int32 → Mem → Prop) (h : w_X7_firstDoorFrom  M x1 Q) : Ct yX7_firstDoorFrom cX7_firstDoorFrom 6 (some .int) rm_X7_firstDoorFrom X M [.ref (ad X 32), .int x1] (Qi X Q) := by
  refine ct_of (own := RX7) (lv := [(0, .ref (ad X 32)), (1, .int x1)]) rfl (by decide) (Nat.le_of_ble_eq_true rfl) rfl ?_
  intro K C
  have hJ81 : ∀ (R11 : Mem → Int32 → Int32 → Int32 → Prop) (hR11 : ∀ (M : Mem) (x1 : Int32) (x2 : Int32) (x3 : Int32), R11 M x1 x2 x3 → WX K X 6 (Qi X Q) M 11 [(0, .ref (ad X 32)), (1, .int x1), (2, .int x2), (3, .int x3)] []) (M : Mem) (x1 : Int32) (x2 : Int32) (x3 : Int32) (x4 : Int32) (s0 : Int32), wJ_X7_firstDoorFrom_81  Q R11 M x1 x2 x3 x4 s0 → WX K X 6 (Qi X Q) M 81 [(0, .ref (ad X 32)), (1, .int x1), (2, .int x2), (3, .int x3), (4, .int x4)] [.int s0] := by
    intro R11 hR11 M x1 x2 x3 x4 s0 h
    unfold wJ_X7_firstDoorFrom_81 at h
    refine r_istore (pc := 81) (lv2 := [(5, .int s0), (0, .ref (ad X 32)), (1, .int x1), (2, .int x2), (3, .int x3), (4, .int x4)]) C dX7_firstDoorFrom_81 (by decide) rfl ?_
    refine r_iload (pc := 83) C 5 dX7_firstDoorFrom_83 rfl ?_
    refine r_if_ne (pc := 85) (tgt := 93) C dX7_firstDoorFrom_85 (by decide) (fun c1 => ?_) (fun c1 => ?_)
    · have h := h.1 c1
      refine r_aload_n (pc := 93) C 1 dX7_firstDoorFrom_93 rfl ?_
      refine r_get (pc := 94) (k := 32) (j := 2) (Cn := RX7) (T := TX7) (N := 5) C (by decide) (ce32 _) rfl iaX7 (by decide) aw86 rfl rfl dX7_firstDoorFrom_94 ?_
      refine r_iload_n (pc := 97) C 4 dX7_firstDoorFrom_97 rfl ?_
      obtain ⟨g2, h⟩ := h
      refine q_iald (pc := 98) (k := 35) (n := 7) (j := (Int32.toNatClampNeg x3)) C (by decide) (ce35 _) g2 rfl dX7_firstDoorFrom_98 ?_
      exact r_iret (pc := 99) C dX7_firstDoorFrom_99 h
    · have h := h.2 c1
      refine r_iload (pc := 88) C 0 dX7_firstDoorFrom_88 rfl ?_
      refine r_if_eq (pc := 90) (tgt := 100) C dX7_firstDoorFrom_90 (by decide) (fun c3 => ?_) (fun c3 => ?_)
      · have h := h.1 c3
        obtain ⟨v4, ev4⟩ : ∃ z : Int32, z = x3 + 1 := ⟨_, rfl⟩
        replace h := h v4 ev4
        refine r_iinc (pc := 100) (v := v4) (lv2 := [(3, .int v4), (5, .int s0), (0, .ref (ad X 32)), (1, .int x1), (2, .int x2), (4, .int x4)]) C 4 dX7_firstDoorFrom_100 rfl (by rw [ev4]; rfl) (by decide) rfl ?_
        refine r_goto (pc := 103) (tgt := 11) C dX7_firstDoorFrom_103 (by decide) ?_
        refine r_sub (lv2 := [(0, .ref (ad X 32)), (1, .int x1), (2, .int x2), (3, .int v4)]) [2, 3, 4, 0] rfl ?_
        exact hR11 _ _ _ _ h
      · have h := h.2 c3
        refine r_aload_n (pc := 93) C 1 dX7_firstDoorFrom_93 rfl ?_
        refine r_get (pc := 94) (k := 32) (j := 2) (Cn := RX7) (T := TX7) (N := 5) C (by decide) (ce32 _) rfl iaX7 (by decide) aw86 rfl rfl dX7_firstDoorFrom_94 ?_
        refine r_iload_n (pc := 97) C 4 dX7_firstDoorFrom_97 rfl ?_
        obtain ⟨g5, h⟩ := h
        refine q_iald (pc := 98) (k := 35) (n := 7) (j := (Int32.toNatClampNeg x3)) C (by decide) (ce35 _) g5 rfl dX7_firstDoorFrom_98 ?_
        exact r_iret (pc := 99) C dX7_firstDoorFrom_99 h
  have hJ80 : ∀ (R11 : Mem → Int32 → Int32 → Int32 → Prop) (hR11 : ∀ (M : Mem) (x1 : Int32) (x2 : Int32) (x3 : Int32), R11 M x1 x2 x3 → WX K X 6 (Qi X Q) M 11 [(0, .ref (ad X 32)), (1, .int x1), (2, .int x2), (3, .int x3)] []) (M : Mem) (x1 : Int32) (x2 : Int32) (x3 : Int32) (x4 : Int32), wJ_X7_firstDoorFrom_80  Q R11 M x1 x2 x3 x4 → WX K X 6 (Qi X Q) M 80 [(0, .ref (ad X 32)), (1, .int x1), (2, .int x2), (3, .int x3), (4, .int x4)] [] := by
    intro R11 hR11 M x1 x2 x3 x4 h
    unfold wJ_X7_firstDoorFrom_80 at h
    refine r_iconst (pc := 80) (v := 0) C dX7_firstDoorFrom_80 (by decide) ?_
    refine r_sub (lv2 := [(0, .ref (ad X 32)), (1, .int x1), (2, .int x2), (3, .int x3), (4, .int x4)]) [0, 1, 2, 3, 4] rfl ?_
    exact hJ81 _ hR11 _ _ _ _ _ _ h
  have hJ49 : ∀ (R11 : Mem → Int32 → Int32 → Int32 → Prop) (hR11 : ∀ (M : Mem) (x1 : Int32) (x2 : Int32) (x3 : Int32), R11 M x1 x2 x3 → WX K X 6 (Qi X Q) M 11 [(0, .ref (ad X 32)), (1, .int x1), (2, .int x2), (3, .int x3)] []) (M : Mem) (x1 : Int32) (x2 : Int32) (x3 : Int32) (s0 : Int32), wJ_X7_firstDoorFrom_49  Q R11 M x1 x2 x3 s0 → WX K X 6 (Qi X Q) M 49 [(0, .ref (ad X 32)), (1, .int x1), (2, .int x2), (3, .int x3)] [.int s0] := by
    intro R11 hR11 M x1 x2 x3 s0 h
    unfold wJ_X7_firstDoorFrom_49 at h
    refine r_istore (pc := 49) (lv2 := [(4, .int s0), (0, .ref (ad X 32)), (1, .int x1), (2, .int x2), (3, .int x3)]) C dX7_firstDoorFrom_49 (by decide) rfl ?_
    refine r_aload_n (pc := 51) C 1 dX7_firstDoorFrom_51 rfl ?_
    refine r_get (pc := 52) (k := 32) (j := 1) (Cn := RX7) (T := TX7) (N := 5) C (by decide) (ce32 _) rfl iaX7 (by decide) aw85 rfl rfl dX7_firstDoorFrom_52 ?_
    refine r_iload_n (pc := 55) C 4 dX7_firstDoorFrom_55 rfl ?_
    obtain ⟨g1, h⟩ := h
    refine q_iald (pc := 56) (k := 34) (n := 7) (j := (Int32.toNatClampNeg x3)) C (by decide) (ce34 _) g1 rfl dX7_firstDoorFrom_56 ?_
    refine r_iload_n (pc := 57) C 2 dX7_firstDoorFrom_57 rfl ?_
    refine r_icmp_ne (pc := 58) (tgt := 80) C dX7_firstDoorFrom_58 (by decide) (fun c2 => ?_) (fun c2 => ?_)
    · have h := h.1 c2
      refine r_sub (lv2 := [(0, .ref (ad X 32)), (1, .int x1), (2, .int x2), (3, .int x3), (4, .int s0)]) [1, 2, 3, 4, 0] rfl ?_
      exact hJ80 _ hR11 _ _ _ _ _ h
    · have h := h.2 c2
      refine r_aload_n (pc := 61) C 1 dX7_firstDoorFrom_61 rfl ?_
      refine r_get (pc := 62) (k := 32) (j := 3) (Cn := RX7) (T := TX7) (N := 5) C (by decide) (ce32 _) rfl iaX7 (by decide) aw87 rfl rfl dX7_firstDoorFrom_62 ?_
      refine r_aload_n (pc := 65) C 1 dX7_firstDoorFrom_65 rfl ?_
      refine r_get (pc := 66) (k := 32) (j := 0) (Cn := RX7) (T := TX7) (N := 5) C (by decide) (ce32 _) rfl iaX7 (by decide) aw84 rfl rfl dX7_firstDoorFrom_66 ?_
      refine r_iload_n (pc := 69) C 4 dX7_firstDoorFrom_69 rfl ?_
      obtain ⟨g3, h⟩ := h
      refine q_iald (pc := 70) (k := 33) (n := 7) (j := (Int32.toNatClampNeg x3)) C (by decide) (ce33 _) g3 rfl dX7_firstDoorFrom_70 ?_
      refine r_topi (fun v4 ev4 => ?_)
      replace h := h v4 ev4
      obtain ⟨g5, h⟩ := h
      refine q_iald (pc := 71) (k := 36) (n := 6) (j := (Int32.toNatClampNeg v4)) C (by decide) (ce36 _) g5 rfl dX7_firstDoorFrom_71 ?_
      refine r_iload_n (pc := 72) C 3 dX7_firstDoorFrom_72 rfl ?_
      refine r_icmp_ne (pc := 73) (tgt := 80) C dX7_firstDoorFrom_73 (by decide) (fun c6 => ?_) (fun c6 => ?_)
      · have h := h.1 c6
        refine r_sub (lv2 := [(0, .ref (ad X 32)), (1, .int x1), (2, .int x2), (3, .int x3), (4, .int s0)]) [1, 2, 3, 4, 0] rfl ?_
        exact hJ80 _ hR11 _ _ _ _ _ h
      · have h := h.2 c6
        refine r_iconst (pc := 76) (v := 1) C dX7_firstDoorFrom_76 (by decide) ?_
        refine r_goto (pc := 77) (tgt := 81) C dX7_firstDoorFrom_77 (by decide) ?_
        refine r_sub (lv2 := [(0, .ref (ad X 32)), (1, .int x1), (2, .int x2), (3, .int x3), (4, .int s0)]) [1, 2, 3, 4, 0] rfl ?_
        exact hJ81 _ hR11 _ _ _ _ _ _ h
  have hJ48 : ∀ (R11 : Mem → Int32 → Int32 → Int32 → Prop) (hR11 : ∀ (M : Mem) (x1 : Int32) (x2 : Int32) (x3 : Int32), R11 M x1 x2 x3 → WX K X 6 (Qi X Q) M 11 [(0, .ref (ad X 32)), (1, .int x1), (2, .int x2), (3, .int x3)] []) (M : Mem) (x1 : Int32) (x2 : Int32) (x3 : Int32), wJ_X7_firstDoorFrom_48  Q R11 M x1 x2 x3 → WX K X 6 (Qi X Q) M 48 [(0, .ref (ad X 32)), (1, .int x1), (2, .int x2), (3, .int x3)] [] := by
    intro R11 hR11 M x1 x2 x3 h
    unfold wJ_X7_firstDoorFrom_48 at h
    refine r_iconst (pc := 48) (v := 0) C dX7_firstDoorFrom_48 (by decide) ?_
    refine r_sub (lv2 := [(0, .ref (ad X 32)), (1, .int x1), (2, .int x2), (3, .int x3)]) [0, 1, 2, 3] rfl ?_
    exact hJ49 _ hR11 _ _ _ _ _ h
  have hL11 : ∀  (n : Nat) (M : Mem) (x1 : Int32) (x2 : Int32) (x3 : Int32), wL_X7_firstDoorFrom_11  Q  n M x1 x2 x3 → WX K X 6 (Qi X Q) M 11 [(0, .ref (ad X 32)), (1, .int x1), (2, .int x2), (3, .int x3)] [] := by
    intro  n
    induction n with
    | zero => intro M x1 x2 x3 h; exact absurd h id
    | succ n ih =>
      intro M x1 x2 x3 h
      replace h := wL_X7_firstDoorFrom_11_s h
      unfold wB_X7_firstDoorFrom_11 at h
      refine r_iload_n (pc := 11) C 3 dX7_firstDoorFrom_11 rfl ?_
      refine r_aload_n (pc := 12) C 0 dX7_firstDoorFrom_12 rfl ?_
      refine r_get (pc := 13) (k := 32) (j := 4) (Cn := RX7) (T := TX7) (N := 5) C (by decide) (ce32 _) rfl iaX7 (by decide) aw639 rfl rfl dX7_firstDoorFrom_13 ?_
      refine r_icmp_ge (pc := 16) (tgt := 106) C dX7_firstDoorFrom_16 (by decide) (fun c1 => ?_) (fun c1 => ?_)
      · have h := h.1 c1
        refine r_ldc (pc := 106) C aw647 dX7_firstDoorFrom_106 ?_
        exact r_iret (pc := 108) C dX7_firstDoorFrom_108 h
      · have h := h.2 c1
        refine r_aload_n (pc := 19) C 0 dX7_firstDoorFrom_19 rfl ?_
        refine r_get (pc := 20) (k := 32) (j := 0) (Cn := RX7) (T := TX7) (N := 5) C (by decide) (ce32 _) rfl iaX7 (by decide) aw84 rfl rfl dX7_firstDoorFrom_20 ?_
        refine r_iload_n (pc := 23) C 3 dX7_firstDoorFrom_23 rfl ?_
        obtain ⟨g2, h⟩ := h
        refine q_iald (pc := 24) (k := 33) (n := 7) (j := (Int32.toNatClampNeg x3)) C (by decide) (ce33 _) g2 rfl dX7_firstDoorFrom_24 ?_
        refine r_iload_n (pc := 25) C 1 dX7_firstDoorFrom_25 rfl ?_
        refine r_icmp_ne (pc := 26) (tgt := 48) C dX7_firstDoorFrom_26 (by decide) (fun c3 => ?_) (fun c3 => ?_)
        · have h := h.1 c3
          refine r_sub (lv2 := [(0, .ref (ad X 32)), (1, .int x1), (2, .int x2), (3, .int x3)]) [0, 1, 2, 3] rfl ?_
          exact hJ48 _ ih _ _ _ _ h
        · have h := h.2 c3
          refine r_aload_n (pc := 29) C 0 dX7_firstDoorFrom_29 rfl ?_
          refine r_get (pc := 30) (k := 32) (j := 3) (Cn := RX7) (T := TX7) (N := 5) C (by decide) (ce32 _) rfl iaX7 (by decide) aw87 rfl rfl dX7_firstDoorFrom_30 ?_
          refine r_aload_n (pc := 33) C 0 dX7_firstDoorFrom_33 rfl ?_
          refine r_get (pc := 34) (k := 32) (j := 1) (Cn := RX7) (T := TX7) (N := 5) C (by decide) (ce32 _) rfl iaX7 (by decide) aw85 rfl rfl dX7_firstDoorFrom_34 ?_
          refine r_iload_n (pc := 37) C 3 dX7_firstDoorFrom_37 rfl ?_
          obtain ⟨g4, h⟩ := h
          refine q_iald (pc := 38) (k := 34) (n := 7) (j := (Int32.toNatClampNeg x3)) C (by decide) (ce34 _) g4 rfl dX7_firstDoorFrom_38 ?_
          refine r_topi (fun v5 ev5 => ?_)
          replace h := h v5 ev5
          obtain ⟨g6, h⟩ := h
          refine q_iald (pc := 39) (k := 36) (n := 6) (j := (Int32.toNatClampNeg v5)) C (by decide) (ce36 _) g6 rfl dX7_firstDoorFrom_39 ?_
          refine r_iload_n (pc := 40) C 2 dX7_firstDoorFrom_40 rfl ?_
          refine r_icmp_ne (pc := 41) (tgt := 48) C dX7_firstDoorFrom_41 (by decide) (fun c7 => ?_) (fun c7 => ?_)
          · have h := h.1 c7
            refine r_sub (lv2 := [(0, .ref (ad X 32)), (1, .int x1), (2, .int x2), (3, .int x3)]) [0, 1, 2, 3] rfl ?_
            exact hJ48 _ ih _ _ _ _ h
          · have h := h.2 c7
            refine r_iconst (pc := 44) (v := 1) C dX7_firstDoorFrom_44 (by decide) ?_
            refine r_goto (pc := 45) (tgt := 49) C dX7_firstDoorFrom_45 (by decide) ?_
            refine r_sub (lv2 := [(0, .ref (ad X 32)), (1, .int x1), (2, .int x2), (3, .int x3)]) [0, 1, 2, 3] rfl ?_
            exact hJ49 _ ih _ _ _ _ _ h
  unfold w_X7_firstDoorFrom at h
  refine r_aload_n (pc := 0) C 0 dX7_firstDoorFrom_0 rfl ?_
  refine r_get (pc := 1) (k := 32) (j := 3) (Cn := RX7) (T := TX7) (N := 5) C (by decide) (ce32 _) rfl iaX7 (by decide) aw87 rfl rfl dX7_firstDoorFrom_1 ?_
  refine r_iload_n (pc := 4) C 1 dX7_firstDoorFrom_4 rfl ?_
  obtain ⟨g1, h⟩ := h
  refine q_iald (pc := 5) (k := 36) (n := 6) (j := (Int32.toNatClampNeg x1)) C (by decide) (ce36 _) g1 rfl dX7_firstDoorFrom_5 ?_
  refine r_iconst (pc := 6) (v := 1) C dX7_firstDoorFrom_6 (by decide) ?_
  refine r_isub (pc := 7) C dX7_firstDoorFrom_7 ?_
  refine r_topi (fun v2 ev2 => ?_)
  replace h := h v2 ev2
  refine r_istore_n (pc := 8) (lv2 := [(2, .int v2), (0, .ref (ad X 32)), (1, .int x1)]) C dX7_firstDoorFrom_8 (by decide) rfl ?_
  refine r_iconst (pc := 9) (v := 0) C dX7_firstDoorFrom_9 (by decide) ?_
  refine r_istore_n (pc := 10) (lv2 := [(3, .int 0), (2, .int v2), (0, .ref (ad X 32)), (1, .int x1)]) C dX7_firstDoorFrom_10 (by decide) rfl ?_
  obtain ⟨n3, h⟩ := h
  refine r_sub (lv2 := [(0, .ref (ad X 32)), (1, .int x1), (2, .int v2), (3, .int 0)]) [2, 3, 1, 0] rfl ?_
  exact hL11  _ _ _ _ _ h
theorem yd_X7_farWith : yX7_farWith.cls ≠ "java/lang/invoke/MethodHandle" ∧ yX7_farWith.cls ≠ "java/lang/invoke/VarHandle" ∧ (parseMethodDescriptor yX7_farWith.desc).map (fun d => d.parameters.length) = some 4 := by decide +kernel
def w_X7_farWith  (M : Mem) (x1 : Int32) (x2 : Int32) (x3 : Int32) (x4 : Int32) (Q : Int32 → Mem → Prop) : Prop :=
  w_X7_add  M x1 x2 (-1000000) (fun M1 => w_X7_measureFrom  M1 x3 (fun M3 => ∀ v5 : Int32, v5 = ((M3 32 4) - 1) → (∀ M6 : Mem, M6 = ms M3 32 4 v5 → (vp_in x4 6 ∧ (Q (M6 36 (Int32.toNatClampNeg x4)) M6)))))
abbrev rm_X7_farWith : Room := { frames := 9, cells := 0, slots := 0, locals := 180 }
set_option maxHeartbeats 4000000 in
set_option maxRecDepth 100000 in
theorem c_X7_farWith (X : Cx)  (M : Mem) (x1 : Int32) (x2 : Int32) (x3 : Int32) (x4 : Int32) (Q : Int32 → Mem → Prop) (h : w_X7_farWith  M x1 x2 x3 x4 Q) : Ct yX7_farWith cX7_farWith 5 (some .int) rm_X7_farWith X M [.ref (ad X 32), .int x1, .int x2, .int x3, .int x4] (Qi X Q) := by
  refine ct_of (own := RX7) (lv := [(0, .ref (ad X 32)), (1, .int x1), (2, .int x2), (3, .int x3), (4, .int x4)]) rfl (by decide) (Nat.le_of_ble_eq_true rfl) rfl ?_
  intro K C
  unfold w_X7_farWith at h
  refine r_aload_n (pc := 0) C 0 dX7_farWith_0 rfl ?_
  refine r_iload_n (pc := 1) C 1 dX7_farWith_1 rfl ?_
  refine r_iload_n (pc := 2) C 2 dX7_farWith_2 rfl ?_
  refine r_ldc (pc := 3) C aw647 dX7_farWith_3 ?_
  have hM := c_X7_add X  M x1 x2 (-1000000) _ h
  refine q_s0 (s1 := List.reverse [.int x1, .int x2, .int (-1000000)] ++ .ref (ad X 32) :: []) rfl ?_
  refine r_callVv (pc := 5) (k := 32) (As := [.int x1, .int x2, .int (-1000000)]) (st := []) C 3 (by decide) (ce32 _) rfl aw641 aw642 hM aw640 aw643 aw38 yd_X7_add ⟨rfl, rfl⟩ ⟨Nat.le_of_ble_eq_true rfl, Nat.le_of_ble_eq_true rfl⟩ rfl (Nat.le_of_ble_eq_true rfl) dX7_farWith_5 (fun M1 h => ?_)
  refine r_aload_n (pc := 8) C 0 dX7_farWith_8 rfl ?_
  refine r_iload_n (pc := 9) C 3 dX7_farWith_9 rfl ?_
  have hM := c_X7_measureFrom X  M1 x3 _ h
  refine q_s0 (s1 := List.reverse [.int x3] ++ .ref (ad X 32) :: []) rfl ?_
  refine r_callVv (pc := 10) (k := 32) (As := [.int x3]) (st := []) C 1 (by decide) (ce32 _) rfl aw644 aw645 hM aw774 aw646 aw38 yd_X7_measureFrom ⟨rfl, rfl⟩ ⟨Nat.le_of_ble_eq_true rfl, Nat.le_of_ble_eq_true rfl⟩ rfl (Nat.le_of_ble_eq_true rfl) dX7_farWith_10 (fun M3 h => ?_)
  refine r_aload_n (pc := 13) C 0 dX7_farWith_13 rfl ?_
  refine r_dup (pc := 14) C dX7_farWith_14 rfl ?_
  refine r_get (pc := 15) (k := 32) (j := 4) (Cn := RX7) (T := TX7) (N := 5) C (by decide) (ce32 _) rfl iaX7 (by decide) aw639 rfl rfl dX7_farWith_15 ?_
  refine r_iconst (pc := 18) (v := 1) C dX7_farWith_18 (by decide) ?_
  refine r_isub (pc := 19) C dX7_farWith_19 ?_
  refine r_topi (fun v5 ev5 => ?_)
  replace h := h v5 ev5
  refine r_put (pc := 20) (k := 32) (j := 4) (Cn := RX7) (T := TX7) (N := 5) (host := "") C (by decide) (ce32 _) rfl iaX7 (by decide) (ce32 _) tyX7_ok nmX7 aw639 rfl rfl (tyX7_ok 4 (by decide)) (Nat.le_of_ble_eq_true rfl) dX7_farWith_20 ?_
  refine r_topM (fun M6 eM6 => ?_)
  replace h := h M6 eM6
  refine r_aload_n (pc := 23) C 0 dX7_farWith_23 rfl ?_
  refine r_get (pc := 24) (k := 32) (j := 3) (Cn := RX7) (T := TX7) (N := 5) C (by decide) (ce32 _) rfl iaX7 (by decide) aw87 rfl rfl dX7_farWith_24 ?_
  refine r_iload (pc := 27) C 4 dX7_farWith_27 rfl ?_
  obtain ⟨g7, h⟩ := h
  refine q_iald (pc := 29) (k := 36) (n := 6) (j := (Int32.toNatClampNeg x4)) C (by decide) (ce36 _) g7 rfl dX7_farWith_29 ?_
  exact r_iret (pc := 30) C dX7_farWith_30 h
