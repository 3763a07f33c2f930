theorem yd_X6_cellOf : yX6_cellOf.cls ≠ "java/lang/invoke/MethodHandle" ∧ yX6_cellOf.cls ≠ "java/lang/invoke/VarHandle" ∧ (parseMethodDescriptor yX6_cellOf.desc).map (fun d => d.parameters.length) = some 2 := by decide +kernel
def w_X6_cellOf  (M : Mem) (x0 : Int32) (x1 : Int32) (Q : Int32 → Mem → Prop) : Prop :=
  Q ((x0 * 6) + x1) M
abbrev rm_X6_cellOf : Room := { frames := 3, cells := 0, slots := 0, locals := 60 }
set_option maxHeartbeats 4000000 in
set_option maxRecDepth 100000 in
theorem c_X6_cellOf (X : Cx)  (M : Mem) (x0 : Int32) (x1 : Int32) (Q : Int32 → Mem → Prop) (h : w_X6_cellOf  M x0 x1 Q) : Ct yX6_cellOf cX6_cellOf 2 (some .int) rm_X6_cellOf X M [.int x0, .int x1] (Qi X Q) := by
  refine ct_of (own := RX6) (lv := [(0, .int x0), (1, .int x1)]) rfl (by decide) (Nat.le_of_ble_eq_true rfl) rfl ?_
  intro K C
  unfold w_X6_cellOf at h
  refine r_iload_n (pc := 0) C 0 dX6_cellOf_0 rfl ?_
  refine r_bipush (pc := 1) (v := 6) C dX6_cellOf_1 (by decide) ?_
  refine r_imul (pc := 3) C dX6_cellOf_3 ?_
  refine r_iload_n (pc := 4) C 1 dX6_cellOf_4 rfl ?_
  refine r_iadd (pc := 5) C dX6_cellOf_5 ?_
  exact r_iret (pc := 6) C dX6_cellOf_6 h
theorem yd_X6_cross : yX6_cross.cls ≠ "java/lang/invoke/MethodHandle" ∧ yX6_cross.cls ≠ "java/lang/invoke/VarHandle" ∧ (parseMethodDescriptor yX6_cross.desc).map (fun d => d.parameters.length) = some 2 := by decide +kernel
def w_X6_cross (k0 : Nat) (M : Mem) (x1 : Int32) (x2 : Int32) (Q : Mem → Prop) : Prop :=
  vp_in x1 6 ∧ (vp_in x2 6 ∧ (((¬ (M (k0 + 4) (Int32.toNatClampNeg x1)) = (M (k0 + 1) (Int32.toNatClampNeg x2))) → (vp_in x2 6 ∧ (∀ v5 : Int32, v5 = (M (k0 + 1) (Int32.toNatClampNeg x2)) → (vp_in x1 6 ∧ (∀ M7 : Mem, M7 = ms M (k0 + 4) (Int32.toNatClampNeg x1) v5 → (Q M7)))))) ∧ (((M (k0 + 4) (Int32.toNatClampNeg x1)) = (M (k0 + 1) (Int32.toNatClampNeg x2))) → (vp_in x2 6 ∧ (∀ v9 : Int32, v9 = (M (k0 + 2) (Int32.toNatClampNeg x2)) → (vp_in x1 6 ∧ (∀ M11 : Mem, M11 = ms M (k0 + 4) (Int32.toNatClampNeg x1) v9 → (Q M11))))))))
abbrev rm_X6_cross : Room := { frames := 3, cells := 0, slots := 0, locals := 60 }
set_option maxHeartbeats 4000000 in
set_option maxRecDepth 100000 in
theorem c_X6_cross (X : Cx) (k0 : Nat) (h0 : kd k0 = 6) (M : Mem) (x1 : Int32) (x2 : Int32) (Q : Mem → Prop) (h : w_X6_cross k0 M x1 x2 Q) : Ct yX6_cross cX6_cross 3 none rm_X6_cross X M [.ref (ad X k0), .int x1, .int x2] (Qv X Q) := by
  refine ct_of (own := RX6) (lv := [(0, .ref (ad X k0)), (1, .int x1), (2, .int x2)]) rfl (by decide) (Nat.le_of_ble_eq_true rfl) rfl ?_
  intro K C
  unfold w_X6_cross at h
  refine r_aload_n (pc := 0) C 0 dX6_cross_0 rfl ?_
  refine r_get (pc := 1) (k := k0) (j := 9) (Cn := RX6) (T := TX6) (N := 16) C (bdT h0) (ceT h0 _) rfl iaX6 (by decide) aw69 rfl rfl dX6_cross_1 ?_
  refine r_iload_n (pc := 4) C 1 dX6_cross_4 rfl ?_
  refine r_aload_n (pc := 5) C 0 dX6_cross_5 rfl ?_
  refine r_get (pc := 6) (k := k0) (j := 9) (Cn := RX6) (T := TX6) (N := 16) C (bdT h0) (ceT h0 _) rfl iaX6 (by decide) aw69 rfl rfl dX6_cross_6 ?_
  refine r_iload_n (pc := 9) C 1 dX6_cross_9 rfl ?_
  obtain ⟨g1, h⟩ := h
  refine q_iald (pc := 10) (k := (k0 + 4)) (n := 6) (j := (Int32.toNatClampNeg x1)) C (bdT4 h0) (ceT4 h0 _) g1 rfl dX6_cross_10 ?_
  refine r_aload_n (pc := 11) C 0 dX6_cross_11 rfl ?_
  refine r_get (pc := 12) (k := k0) (j := 6) (Cn := RX6) (T := TX6) (N := 16) C (bdT h0) (ceT h0 _) rfl iaX6 (by decide) aw66 rfl rfl dX6_cross_12 ?_
  refine r_iload_n (pc := 15) C 2 dX6_cross_15 rfl ?_
  obtain ⟨g2, h⟩ := h
  refine q_iald (pc := 16) (k := (k0 + 1)) (n := 6) (j := (Int32.toNatClampNeg x2)) C (bdT1 h0) (ceT1 h0 _) g2 rfl dX6_cross_16 ?_
  refine r_icmp_ne (pc := 17) (tgt := 29) C dX6_cross_17 (by decide) (fun c3 => ?_) (fun c3 => ?_)
  · have h := h.1 c3
    refine r_aload_n (pc := 29) C 0 dX6_cross_29 rfl ?_
    refine r_get (pc := 30) (k := k0) (j := 6) (Cn := RX6) (T := TX6) (N := 16) C (bdT h0) (ceT h0 _) rfl iaX6 (by decide) aw66 rfl rfl dX6_cross_30 ?_
    refine r_iload_n (pc := 33) C 2 dX6_cross_33 rfl ?_
    obtain ⟨g4, h⟩ := h
    refine q_iald (pc := 34) (k := (k0 + 1)) (n := 6) (j := (Int32.toNatClampNeg x2)) C (bdT1 h0) (ceT1 h0 _) g4 rfl dX6_cross_34 ?_
    refine r_topi (fun v5 ev5 => ?_)
    replace h := h v5 ev5
    obtain ⟨g6, h⟩ := h
    refine q_iast (pc := 35) (k := (k0 + 4)) (n := 6) (j := (Int32.toNatClampNeg x1)) C (bdT4 h0) (ceT4 h0) g6 rfl dX6_cross_35 ?_
    refine r_topM (fun M7 eM7 => ?_)
    replace h := h M7 eM7
    exact r_vret (pc := 36) C dX6_cross_36 h
  · have h := h.2 c3
    refine r_aload_n (pc := 20) C 0 dX6_cross_20 rfl ?_
    refine r_get (pc := 21) (k := k0) (j := 7) (Cn := RX6) (T := TX6) (N := 16) C (bdT h0) (ceT h0 _) rfl iaX6 (by decide) aw67 rfl rfl dX6_cross_21 ?_
    refine r_iload_n (pc := 24) C 2 dX6_cross_24 rfl ?_
    obtain ⟨g8, h⟩ := h
    refine q_iald (pc := 25) (k := (k0 + 2)) (n := 6) (j := (Int32.toNatClampNeg x2)) C (bdT2 h0) (ceT2 h0 _) g8 rfl dX6_cross_25 ?_
    refine r_goto (pc := 26) (tgt := 35) C dX6_cross_26 (by decide) ?_
    refine r_topi (fun v9 ev9 => ?_)
    replace h := h v9 ev9
    obtain ⟨g10, h⟩ := h
    refine q_iast (pc := 35) (k := (k0 + 4)) (n := 6) (j := (Int32.toNatClampNeg x1)) C (bdT4 h0) (ceT4 h0) g10 rfl dX6_cross_35 ?_
    refine r_topM (fun M11 eM11 => ?_)
    replace h := h M11 eM11
    exact r_vret (pc := 36) C dX6_cross_36 h
theorem yd_X6_freshIn : yX6_freshIn.cls ≠ "java/lang/invoke/MethodHandle" ∧ yX6_freshIn.cls ≠ "java/lang/invoke/VarHandle" ∧ (parseMethodDescriptor yX6_freshIn.desc).map (fun d => d.parameters.length) = some 1 := by decide +kernel
def wJ_X6_freshIn_30 (k0 : Nat) (Q : Int32 → Mem → Prop)  (M : Mem) (x1 : Int32) (s0 : Int32) : Prop :=
  ((s0 = 0) → (vp_in x1 36 ∧ (Q ((M (k0 + 9) (Int32.toNatClampNeg x1)) / 2) M))) ∧ ((¬ s0 = 0) → (vp_in x1 36 ∧ (Q (M (k0 + 9) (Int32.toNatClampNeg x1)) M)))
def wJ_X6_freshIn_25 (k0 : Nat) (Q : Int32 → Mem → Prop)  (M : Mem) (x1 : Int32) : Prop :=
  wJ_X6_freshIn_30 k0 Q  M x1 1
def w_X6_freshIn (k0 : Nat) (M : Mem) (x1 : Int32) (Q : Int32 → Mem → Prop) : Prop :=
  (((M k0 1) = 0) → (wJ_X6_freshIn_25 k0 Q  M x1)) ∧ ((¬ (M k0 1) = 0) → (vp_in x1 36 ∧ ((((M k0 1) < ((M k0 5) - (M (k0 + 10) (Int32.toNatClampNeg x1)))) → (wJ_X6_freshIn_30 k0 Q  M x1 0)) ∧ ((¬ (M k0 1) < ((M k0 5) - (M (k0 + 10) (Int32.toNatClampNeg x1)))) → (wJ_X6_freshIn_25 k0 Q  M x1)))))
abbrev rm_X6_freshIn : Room := { frames := 3, cells := 0, slots := 0, locals := 60 }
set_option maxHeartbeats 4000000 in
set_option maxRecDepth 100000 in
theorem c_X6_freshIn (X : Cx) (k0 : Nat) (h0 : kd k0 = 6) (M : Mem) (x1 : Int32) (Q : Int32 → Mem → Prop) (h : w_X6_freshIn k0 M x1 Q) : Ct yX6_freshIn cX6_freshIn 3 (some .int) rm_X6_freshIn X M [.ref (ad X k0), .int x1] (Qi X Q) := by
  refine ct_of (own := RX6) (lv := [(0, .ref (ad X k0)), (1, .int x1)]) rfl (by decide) (Nat.le_of_ble_eq_true rfl) rfl ?_
  intro K C
  have hJ30 : ∀  (M : Mem) (x1 : Int32) (s0 : Int32), wJ_X6_freshIn_30 k0 Q  M x1 s0 → WX K X 3 (Qi X Q) M 30 [(0, .ref (ad X k0)), (1, .int x1)] [.int s0] := by
    intro  M x1 s0 h
    unfold wJ_X6_freshIn_30 at h
    refine r_istore_n (pc := 30) (lv2 := [(2, .int s0), (0, .ref (ad X k0)), (1, .int x1)]) C dX6_freshIn_30 (by decide) rfl ?_
    refine r_iload_n (pc := 31) C 0 dX6_freshIn_31 rfl ?_
    refine r_if_eq (pc := 32) (tgt := 44) C dX6_freshIn_32 (by decide) (fun c1 => ?_) (fun c1 => ?_)
    · have h := h.1 c1
      refine r_aload_n (pc := 44) C 1 dX6_freshIn_44 rfl ?_
      refine r_get (pc := 45) (k := k0) (j := 14) (Cn := RX6) (T := TX6) (N := 16) C (bdT h0) (ceT h0 _) rfl iaX6 (by decide) aw74 rfl rfl dX6_freshIn_45 ?_
      refine r_iload_n (pc := 48) C 2 dX6_freshIn_48 rfl ?_
      obtain ⟨g2, h⟩ := h
      refine q_iald (pc := 49) (k := (k0 + 9)) (n := 36) (j := (Int32.toNatClampNeg x1)) C (bdT9 h0) (ceT9 h0 _) g2 rfl dX6_freshIn_49 ?_
      refine r_iconst (pc := 50) (v := 2) C dX6_freshIn_50 (by decide) ?_
      refine r_idiv (pc := 51) C dX6_freshIn_51 (by decide) ?_
      exact r_iret (pc := 52) C dX6_freshIn_52 h
    · have h := h.2 c1
      refine r_aload_n (pc := 35) C 1 dX6_freshIn_35 rfl ?_
      refine r_get (pc := 36) (k := k0) (j := 14) (Cn := RX6) (T := TX6) (N := 16) C (bdT h0) (ceT h0 _) rfl iaX6 (by decide) aw74 rfl rfl dX6_freshIn_36 ?_
      refine r_iload_n (pc := 39) C 2 dX6_freshIn_39 rfl ?_
      obtain ⟨g3, h⟩ := h
      refine q_iald (pc := 40) (k := (k0 + 9)) (n := 36) (j := (Int32.toNatClampNeg x1)) C (bdT9 h0) (ceT9 h0 _) g3 rfl dX6_freshIn_40 ?_
      refine r_goto (pc := 41) (tgt := 52) C dX6_freshIn_41 (by decide) ?_
      exact r_iret (pc := 52) C dX6_freshIn_52 h
  have hJ25 : ∀  (M : Mem) (x1 : Int32), wJ_X6_freshIn_25 k0 Q  M x1 → WX K X 3 (Qi X Q) M 25 [(0, .ref (ad X k0)), (1, .int x1)] [] := by
    intro  M x1 h
    unfold wJ_X6_freshIn_25 at h
    refine r_iconst (pc := 25) (v := 1) C dX6_freshIn_25 (by decide) ?_
    refine r_goto (pc := 26) (tgt := 30) C dX6_freshIn_26 (by decide) ?_
    refine r_sub (lv2 := [(0, .ref (ad X k0)), (1, .int x1)]) [0, 1] rfl ?_
    exact hJ30  _ _ _ h
  unfold w_X6_freshIn at h
  refine r_aload_n (pc := 0) C 0 dX6_freshIn_0 rfl ?_
  refine r_get (pc := 1) (k := k0) (j := 1) (Cn := RX6) (T := TX6) (N := 16) C (bdT h0) (ceT h0 _) rfl iaX6 (by decide) aw273 rfl rfl dX6_freshIn_1 ?_
  refine r_if_eq (pc := 4) (tgt := 25) C dX6_freshIn_4 (by decide) (fun c1 => ?_) (fun c1 => ?_)
  · have h := h.1 c1
    refine r_sub (lv2 := [(0, .ref (ad X k0)), (1, .int x1)]) [0, 1] rfl ?_
    exact hJ25  _ _ h
  · have h := h.2 c1
    refine r_aload_n (pc := 7) C 0 dX6_freshIn_7 rfl ?_
    refine r_get (pc := 8) (k := k0) (j := 5) (Cn := RX6) (T := TX6) (N := 16) C (bdT h0) (ceT h0 _) rfl iaX6 (by decide) aw277 rfl rfl dX6_freshIn_8 ?_
    refine r_aload_n (pc := 11) C 0 dX6_freshIn_11 rfl ?_
    refine r_get (pc := 12) (k := k0) (j := 15) (Cn := RX6) (T := TX6) (N := 16) C (bdT h0) (ceT h0 _) rfl iaX6 (by decide) aw75 rfl rfl dX6_freshIn_12 ?_
    refine r_iload_n (pc := 15) C 1 dX6_freshIn_15 rfl ?_
    obtain ⟨g2, h⟩ := h
    refine q_iald (pc := 16) (k := (k0 + 10)) (n := 36) (j := (Int32.toNatClampNeg x1)) C (bdT10 h0) (ceT10 h0 _) g2 rfl dX6_freshIn_16 ?_
    refine r_isub (pc := 17) C dX6_freshIn_17 ?_
    refine r_aload_n (pc := 18) C 0 dX6_freshIn_18 rfl ?_
    refine r_get (pc := 19) (k := k0) (j := 1) (Cn := RX6) (T := TX6) (N := 16) C (bdT h0) (ceT h0 _) rfl iaX6 (by decide) aw273 rfl rfl dX6_freshIn_19 ?_
    refine r_icmp_gt (pc := 22) (tgt := 29) C dX6_freshIn_22 (by decide) (fun c3 => ?_) (fun c3 => ?_)
    · have h := h.1 c3
      refine r_iconst (pc := 29) (v := 0) C dX6_freshIn_29 (by decide) ?_
      refine r_sub (lv2 := [(0, .ref (ad X k0)), (1, .int x1)]) [0, 1] rfl ?_
      exact hJ30  _ _ _ h
    · have h := h.2 c3
      refine r_sub (lv2 := [(0, .ref (ad X k0)), (1, .int x1)]) [0, 1] rfl ?_
      exact hJ25  _ _ h
theorem yd_X6_weightOf : yX6_weightOf.cls ≠ "java/lang/invoke/MethodHandle" ∧ yX6_weightOf.cls ≠ "java/lang/invoke/VarHandle" ∧ (parseMethodDescriptor yX6_weightOf.desc).map (fun d => d.parameters.length) = some 2 := by decide +kernel
def w_X6_weightOf (k0 : Nat) (M : Mem) (x1 : Int32) (x2 : Int32) (Q : Int32 → Mem → Prop) : Prop :=
  w_X6_cellOf  M x1 x2 (fun r2 M1 => vp_in x1 6 ∧ (∀ v4 : Int32, v4 = (M1 (k0 + 3) (Int32.toNatClampNeg x1)) → ((v4 = 2 → (w_X6_freshIn k0 M1 r2 (fun r7 M6 => ((¬ x2 = 0) → (Q (r7 + 0) M6)) ∧ ((x2 = 0) → (Q (r7 + 9) M6))))) ∧ (v4 = 3 → (vp_in r2 36 ∧ (((¬ ((M1 (k0 + 9) (Int32.toNatClampNeg r2)) - (M1 (k0 + 9) (Int32.toNatClampNeg r2)) / 3 * 3) = 0) → (w_X6_freshIn k0 M1 r2 (fun r13 M12 => Q r13 M12))) ∧ ((((M1 (k0 + 9) (Int32.toNatClampNeg r2)) - (M1 (k0 + 9) (Int32.toNatClampNeg r2)) / 3 * 3) = 0) → (Q 0 M1))))) ∧ (v4 = 4 → (vp_in r2 36 ∧ (((¬ (M1 (k0 + 9) (Int32.toNatClampNeg r2)) = 0) → (Q 1 M1)) ∧ (((M1 (k0 + 9) (Int32.toNatClampNeg r2)) = 0) → (Q 0 M1))))) ∧ (v4 = 5 → (vp_in r2 36 ∧ (((¬ (M1 (k0 + 9) (Int32.toNatClampNeg r2)) = 0) → (Q 2 M1)) ∧ (((M1 (k0 + 9) (Int32.toNatClampNeg r2)) = 0) → (Q 0 M1))))) ∧ (¬ v4 = 2 → ¬ v4 = 3 → ¬ v4 = 4 → ¬ v4 = 5 → (w_X6_freshIn k0 M1 r2 (fun r21 M20 => Q r21 M20))))))
abbrev rm_X6_weightOf : Room := { frames := 6, cells := 0, slots := 0, locals := 120 }
set_option maxHeartbeats 4000000 in
set_option maxRecDepth 100000 in
theorem c_X6_weightOf (X : Cx) (k0 : Nat) (h0 : kd k0 = 6) (M : Mem) (x1 : Int32) (x2 : Int32) (Q : Int32 → Mem → Prop) (h : w_X6_weightOf k0 M x1 x2 Q) : Ct yX6_weightOf cX6_weightOf 4 (some .int) rm_X6_weightOf X M [.ref (ad X k0), .int x1, .int x2] (Qi X Q) := by
  refine ct_of (own := RX6) (lv := [(0, .ref (ad X k0)), (1, .int x1), (2, .int x2)]) rfl (by decide) (Nat.le_of_ble_eq_true rfl) rfl ?_
  intro K C
  unfold w_X6_weightOf at h
  refine r_iload_n (pc := 0) C 1 dX6_weightOf_0 rfl ?_
  refine r_iload_n (pc := 1) C 2 dX6_weightOf_1 rfl ?_
  have hM := c_X6_cellOf X  M x1 x2 _ h
  refine q_s0 (s1 := List.reverse [.int x1, .int x2] ++ []) rfl ?_
  refine r_callSi (pc := 2) (As := [.int x1, .int x2]) (st := []) C 2 hM aw286 aw287 aw288 aw28 yd_X6_cellOf ⟨rfl, rfl⟩ ⟨Nat.le_of_ble_eq_true rfl, Nat.le_of_ble_eq_true rfl⟩ rfl (Nat.le_of_ble_eq_true rfl) dX6_weightOf_2 (fun r2 M1 h => ?_)
  refine r_istore_n (pc := 5) (lv2 := [(3, .int r2), (0, .ref (ad X k0)), (1, .int x1), (2, .int x2)]) C dX6_weightOf_5 (by decide) rfl ?_
  refine r_aload_n (pc := 6) C 1 dX6_weightOf_6 rfl ?_
  refine r_get (pc := 7) (k := k0) (j := 8) (Cn := RX6) (T := TX6) (N := 16) C (bdT h0) (ceT h0 _) rfl iaX6 (by decide) aw68 rfl rfl dX6_weightOf_7 ?_
  refine r_iload_n (pc := 10) C 2 dX6_weightOf_10 rfl ?_
  obtain ⟨g3, h⟩ := h
  refine q_iald (pc := 11) (k := (k0 + 3)) (n := 6) (j := (Int32.toNatClampNeg x1)) C (bdT3 h0) (ceT3 h0 _) g3 rfl dX6_weightOf_11 ?_
  refine r_topi (fun v4 ev4 => ?_)
  replace h := h v4 ev4
  by_cases e5 : v4 = 2
  · have h := h.1 e5
    refine r_tabIn (pc := 12) (off := 32) (tgt := 44) C 2 e5 dX6_weightOf_12 (by decide) (by decide) (by decide) (by decide) ?_
    refine r_aload_n (pc := 44) C 1 dX6_weightOf_44 rfl ?_
    refine r_iload_n (pc := 45) C 0 dX6_weightOf_45 rfl ?_
    have hM := c_X6_freshIn X k0 h0 M1 r2 _ h
    refine q_s0 (s1 := List.reverse [.int r2] ++ .ref (ad X k0) :: []) rfl ?_
    refine r_callVi (pc := 46) (k := k0) (As := [.int r2]) (st := []) C 1 (bdT h0) (ceT h0 _) rfl aw436 aw437 hM aw435 aw438 aw28 yd_X6_freshIn ⟨rfl, rfl⟩ ⟨Nat.le_of_ble_eq_true rfl, Nat.le_of_ble_eq_true rfl⟩ rfl (Nat.le_of_ble_eq_true rfl) dX6_weightOf_46 (fun r7 M6 h => ?_)
    refine r_iload_n (pc := 49) C 3 dX6_weightOf_49 rfl ?_
    refine r_if_ne (pc := 50) (tgt := 58) C dX6_weightOf_50 (by decide) (fun c8 => ?_) (fun c8 => ?_)
    · have h := h.1 c8
      refine r_iconst (pc := 58) (v := 0) C dX6_weightOf_58 (by decide) ?_
      refine r_iadd (pc := 59) C dX6_weightOf_59 ?_
      exact r_iret (pc := 60) C dX6_weightOf_60 h
    · have h := h.2 c8
      refine r_bipush (pc := 53) (v := 9) C dX6_weightOf_53 (by decide) ?_
      refine r_goto (pc := 55) (tgt := 59) C dX6_weightOf_55 (by decide) ?_
      refine r_iadd (pc := 59) C dX6_weightOf_59 ?_
      exact r_iret (pc := 60) C dX6_weightOf_60 h
  · skip
    by_cases e9 : v4 = 3
    · have h := h.2.1 e9
      refine r_tabIn (pc := 12) (off := 49) (tgt := 61) C 3 e9 dX6_weightOf_12 (by decide) (by decide) (by decide) (by decide) ?_
      refine r_aload_n (pc := 61) C 1 dX6_weightOf_61 rfl ?_
      refine r_get (pc := 62) (k := k0) (j := 14) (Cn := RX6) (T := TX6) (N := 16) C (bdT h0) (ceT h0 _) rfl iaX6 (by decide) aw74 rfl rfl dX6_weightOf_62 ?_
      refine r_iload_n (pc := 65) C 0 dX6_weightOf_65 rfl ?_
      obtain ⟨g10, h⟩ := h
      refine q_iald (pc := 66) (k := (k0 + 9)) (n := 36) (j := (Int32.toNatClampNeg r2)) C (bdT9 h0) (ceT9 h0 _) g10 rfl dX6_weightOf_66 ?_
      refine r_iconst (pc := 67) (v := 3) C dX6_weightOf_67 (by decide) ?_
      refine r_irem (pc := 68) C dX6_weightOf_68 (by decide) ?_
      refine r_if_ne (pc := 69) (tgt := 76) C dX6_weightOf_69 (by decide) (fun c11 => ?_) (fun c11 => ?_)
      · have h := h.1 c11
        refine r_aload_n (pc := 76) C 1 dX6_weightOf_76 rfl ?_
        refine r_iload_n (pc := 77) C 0 dX6_weightOf_77 rfl ?_
        have hM := c_X6_freshIn X k0 h0 M1 r2 _ h
        refine q_s0 (s1 := List.reverse [.int r2] ++ .ref (ad X k0) :: []) rfl ?_
        refine r_callVi (pc := 78) (k := k0) (As := [.int r2]) (st := []) C 1 (bdT h0) (ceT h0 _) rfl aw436 aw437 hM aw435 aw438 aw28 yd_X6_freshIn ⟨rfl, rfl⟩ ⟨Nat.le_of_ble_eq_true rfl, Nat.le_of_ble_eq_true rfl⟩ rfl (Nat.le_of_ble_eq_true rfl) dX6_weightOf_78 (fun r13 M12 h => ?_)
        exact r_iret (pc := 81) C dX6_weightOf_81 h
      · have h := h.2 c11
        refine r_iconst (pc := 72) (v := 0) C dX6_weightOf_72 (by decide) ?_
        refine r_goto (pc := 73) (tgt := 81) C dX6_weightOf_73 (by decide) ?_
        exact r_iret (pc := 81) C dX6_weightOf_81 h
    · skip
      by_cases e14 : v4 = 4
      · have h := h.2.2.1 e14
        refine r_tabIn (pc := 12) (off := 70) (tgt := 82) C 4 e14 dX6_weightOf_12 (by decide) (by decide) (by decide) (by decide) ?_
        refine r_aload_n (pc := 82) C 1 dX6_weightOf_82 rfl ?_
        refine r_get (pc := 83) (k := k0) (j := 14) (Cn := RX6) (T := TX6) (N := 16) C (bdT h0) (ceT h0 _) rfl iaX6 (by decide) aw74 rfl rfl dX6_weightOf_83 ?_
        refine r_iload_n (pc := 86) C 0 dX6_weightOf_86 rfl ?_
        obtain ⟨g15, h⟩ := h
        refine q_iald (pc := 87) (k := (k0 + 9)) (n := 36) (j := (Int32.toNatClampNeg r2)) C (bdT9 h0) (ceT9 h0 _) g15 rfl dX6_weightOf_87 ?_
        refine r_if_ne (pc := 88) (tgt := 95) C dX6_weightOf_88 (by decide) (fun c16 => ?_) (fun c16 => ?_)
        · have h := h.1 c16
          refine r_iconst (pc := 95) (v := 1) C dX6_weightOf_95 (by decide) ?_
          exact r_iret (pc := 96) C dX6_weightOf_96 h
        · have h := h.2 c16
          refine r_iconst (pc := 91) (v := 0) C dX6_weightOf_91 (by decide) ?_
          refine r_goto (pc := 92) (tgt := 96) C dX6_weightOf_92 (by decide) ?_
          exact r_iret (pc := 96) C dX6_weightOf_96 h
      · skip
        by_cases e17 : v4 = 5
        · have h := h.2.2.2.1 e17
          refine r_tabIn (pc := 12) (off := 85) (tgt := 97) C 5 e17 dX6_weightOf_12 (by decide) (by decide) (by decide) (by decide) ?_
          refine r_aload_n (pc := 97) C 1 dX6_weightOf_97 rfl ?_
          refine r_get (pc := 98) (k := k0) (j := 14) (Cn := RX6) (T := TX6) (N := 16) C (bdT h0) (ceT h0 _) rfl iaX6 (by decide) aw74 rfl rfl dX6_weightOf_98 ?_
          refine r_iload_n (pc := 101) C 0 dX6_weightOf_101 rfl ?_
          obtain ⟨g18, h⟩ := h
          refine q_iald (pc := 102) (k := (k0 + 9)) (n := 36) (j := (Int32.toNatClampNeg r2)) C (bdT9 h0) (ceT9 h0 _) g18 rfl dX6_weightOf_102 ?_
          refine r_if_ne (pc := 103) (tgt := 110) C dX6_weightOf_103 (by decide) (fun c19 => ?_) (fun c19 => ?_)
          · have h := h.1 c19
            refine r_iconst (pc := 110) (v := 2) C dX6_weightOf_110 (by decide) ?_
            exact r_iret (pc := 111) C dX6_weightOf_111 h
          · have h := h.2 c19
            refine r_iconst (pc := 106) (v := 0) C dX6_weightOf_106 (by decide) ?_
            refine r_goto (pc := 107) (tgt := 111) C dX6_weightOf_107 (by decide) ?_
            exact r_iret (pc := 111) C dX6_weightOf_111 h
        · skip
          have h := h.2.2.2.2 e5 e9 e14 e17
          refine r_tabOut (pc := 12) (tgt := 112) C dX6_weightOf_12 (by have ke5 := ne_toInt (n := 2) e5 (by decide); have ke9 := ne_toInt (n := 3) e9 (by decide); have ke14 := ne_toInt (n := 4) e14 (by decide); have ke17 := ne_toInt (n := 5) e17 (by decide); omega) (by decide) ?_
          refine r_aload_n (pc := 112) C 1 dX6_weightOf_112 rfl ?_
          refine r_iload_n (pc := 113) C 0 dX6_weightOf_113 rfl ?_
          have hM := c_X6_freshIn X k0 h0 M1 r2 _ h
          refine q_s0 (s1 := List.reverse [.int r2] ++ .ref (ad X k0) :: []) rfl ?_
          refine r_callVi (pc := 114) (k := k0) (As := [.int r2]) (st := []) C 1 (bdT h0) (ceT h0 _) rfl aw436 aw437 hM aw435 aw438 aw28 yd_X6_freshIn ⟨rfl, rfl⟩ ⟨Nat.le_of_ble_eq_true rfl, Nat.le_of_ble_eq_true rfl⟩ rfl (Nat.le_of_ble_eq_true rfl) dX6_weightOf_114 (fun r21 M20 h => ?_)
          exact r_iret (pc := 117) C dX6_weightOf_117 h
theorem yd_X6_leaningOf : yX6_leaningOf.cls ≠ "java/lang/invoke/MethodHandle" ∧ yX6_leaningOf.cls ≠ "java/lang/invoke/VarHandle" ∧ (parseMethodDescriptor yX6_leaningOf.desc).map (fun d => d.parameters.length) = some 2 := by decide +kernel
def wJ_X6_leaningOf_32 (k0 : Nat) (Q : Int32 → Mem → Prop)  (M : Mem) (x1 : Int32) (x2 : Int32) (x3 : Int32) : Prop :=
  vp_in x1 6 ∧ ((((((M (k0 + 8) (Int32.toNatClampNeg x1)) >>> (x2 &&& 31)) &&& 1) = 0) → (Q x3 M)) ∧ ((¬ (((M (k0 + 8) (Int32.toNatClampNeg x1)) >>> (x2 &&& 31)) &&& 1) = 0) → (∀ v3 : Int32, v3 = x3 + (-9) → (Q v3 M))))
def w_X6_leaningOf (k0 : Nat) (M : Mem) (x1 : Int32) (x2 : Int32) (Q : Int32 → Mem → Prop) : Prop :=
  vp_in x1 6 ∧ (vp_in x1 6 ∧ (∀ v3 : Int32, v3 = (((M (k0 + 5) (Int32.toNatClampNeg x1)) - 3) + (M (k0 + 6) (Int32.toNatClampNeg x1))) → (vp_in x1 6 ∧ ((((((M (k0 + 7) (Int32.toNatClampNeg x1)) >>> (x2 &&& 31)) &&& 1) = 0) → (wJ_X6_leaningOf_32 k0 Q  M x1 x2 v3)) ∧ ((¬ (((M (k0 + 7) (Int32.toNatClampNeg x1)) >>> (x2 &&& 31)) &&& 1) = 0) → (∀ v6 : Int32, v6 = v3 + 5 → (wJ_X6_leaningOf_32 k0 Q  M x1 x2 v6)))))))
abbrev rm_X6_leaningOf : Room := { frames := 3, cells := 0, slots := 0, locals := 60 }
set_option maxHeartbeats 4000000 in
set_option maxRecDepth 100000 in
theorem c_X6_leaningOf (X : Cx) (k0 : Nat) (h0 : kd k0 = 6) (M : Mem) (x1 : Int32) (x2 : Int32) (Q : Int32 → Mem → Prop) (h : w_X6_leaningOf k0 M x1 x2 Q) : Ct yX6_leaningOf cX6_leaningOf 4 (some .int) rm_X6_leaningOf X M [.ref (ad X k0), .int x1, .int x2] (Qi X Q) := by
  refine ct_of (own := RX6) (lv := [(0, .ref (ad X k0)), (1, .int x1), (2, .int x2)]) rfl (by decide) (Nat.le_of_ble_eq_true rfl) rfl ?_
  intro K C
  have hJ32 : ∀  (M : Mem) (x1 : Int32) (x2 : Int32) (x3 : Int32), wJ_X6_leaningOf_32 k0 Q  M x1 x2 x3 → WX K X 4 (Qi X Q) M 32 [(0, .ref (ad X k0)), (1, .int x1), (2, .int x2), (3, .int x3)] [] := by
    intro  M x1 x2 x3 h
    unfold wJ_X6_leaningOf_32 at h
    refine r_aload_n (pc := 32) C 0 dX6_leaningOf_32 rfl ?_
    refine r_get (pc := 33) (k := k0) (j := 13) (Cn := RX6) (T := TX6) (N := 16) C (bdT h0) (ceT h0 _) rfl iaX6 (by decide) aw73 rfl rfl dX6_leaningOf_33 ?_
    refine r_iload_n (pc := 36) C 1 dX6_leaningOf_36 rfl ?_
    obtain ⟨g1, h⟩ := h
    refine q_iald (pc := 37) (k := (k0 + 8)) (n := 6) (j := (Int32.toNatClampNeg x1)) C (bdT8 h0) (ceT8 h0 _) g1 rfl dX6_leaningOf_37 ?_
    refine r_iload_n (pc := 38) C 2 dX6_leaningOf_38 rfl ?_
    refine r_ishr (pc := 39) C dX6_leaningOf_39 ?_
    refine r_iconst (pc := 40) (v := 1) C dX6_leaningOf_40 (by decide) ?_
    refine r_iand (pc := 41) C dX6_leaningOf_41 ?_
    refine r_if_eq (pc := 42) (tgt := 48) C dX6_leaningOf_42 (by decide) (fun c2 => ?_) (fun c2 => ?_)
    · have h := h.1 c2
      refine r_iload_n (pc := 48) C 3 dX6_leaningOf_48 rfl ?_
      exact r_iret (pc := 49) C dX6_leaningOf_49 h
    · have h := h.2 c2
      obtain ⟨v3, ev3⟩ : ∃ z : Int32, z = x3 + (-9) := ⟨_, rfl⟩
      replace h := h v3 ev3
      refine r_iinc (pc := 45) (v := v3) (lv2 := [(3, .int v3), (0, .ref (ad X k0)), (1, .int x1), (2, .int x2)]) C 3 dX6_leaningOf_45 rfl (by rw [ev3]; rfl) (by decide) rfl ?_
      refine r_iload_n (pc := 48) C 0 dX6_leaningOf_48 rfl ?_
      exact r_iret (pc := 49) C dX6_leaningOf_49 h
  unfold w_X6_leaningOf at h
  refine r_aload_n (pc := 0) C 0 dX6_leaningOf_0 rfl ?_
  refine r_get (pc := 1) (k := k0) (j := 10) (Cn := RX6) (T := TX6) (N := 16) C (bdT h0) (ceT h0 _) rfl iaX6 (by decide) aw70 rfl rfl dX6_leaningOf_1 ?_
  refine r_iload_n (pc := 4) C 1 dX6_leaningOf_4 rfl ?_
  obtain ⟨g1, h⟩ := h
  refine q_iald (pc := 5) (k := (k0 + 5)) (n := 6) (j := (Int32.toNatClampNeg x1)) C (bdT5 h0) (ceT5 h0 _) g1 rfl dX6_leaningOf_5 ?_
  refine r_iconst (pc := 6) (v := 3) C dX6_leaningOf_6 (by decide) ?_
  refine r_isub (pc := 7) C dX6_leaningOf_7 ?_
  refine r_aload_n (pc := 8) C 0 dX6_leaningOf_8 rfl ?_
  refine r_get (pc := 9) (k := k0) (j := 11) (Cn := RX6) (T := TX6) (N := 16) C (bdT h0) (ceT h0 _) rfl iaX6 (by decide) aw71 rfl rfl dX6_leaningOf_9 ?_
  refine r_iload_n (pc := 12) C 1 dX6_leaningOf_12 rfl ?_
  obtain ⟨g2, h⟩ := h
  refine q_iald (pc := 13) (k := (k0 + 6)) (n := 6) (j := (Int32.toNatClampNeg x1)) C (bdT6 h0) (ceT6 h0 _) g2 rfl dX6_leaningOf_13 ?_
  refine r_iadd (pc := 14) C dX6_leaningOf_14 ?_
  refine r_topi (fun v3 ev3 => ?_)
  replace h := h v3 ev3
  refine r_istore_n (pc := 15) (lv2 := [(3, .int v3), (0, .ref (ad X k0)), (1, .int x1), (2, .int x2)]) C dX6_leaningOf_15 (by decide) rfl ?_
  refine r_aload_n (pc := 16) C 1 dX6_leaningOf_16 rfl ?_
  refine r_get (pc := 17) (k := k0) (j := 12) (Cn := RX6) (T := TX6) (N := 16) C (bdT h0) (ceT h0 _) rfl iaX6 (by decide) aw72 rfl rfl dX6_leaningOf_17 ?_
  refine r_iload_n (pc := 20) C 2 dX6_leaningOf_20 rfl ?_
  obtain ⟨g4, h⟩ := h
  refine q_iald (pc := 21) (k := (k0 + 7)) (n := 6) (j := (Int32.toNatClampNeg x1)) C (bdT7 h0) (ceT7 h0 _) g4 rfl dX6_leaningOf_21 ?_
  refine r_iload_n (pc := 22) C 3 dX6_leaningOf_22 rfl ?_
  refine r_ishr (pc := 23) C dX6_leaningOf_23 ?_
  refine r_iconst (pc := 24) (v := 1) C dX6_leaningOf_24 (by decide) ?_
  refine r_iand (pc := 25) C dX6_leaningOf_25 ?_
  refine r_if_eq (pc := 26) (tgt := 32) C dX6_leaningOf_26 (by decide) (fun c5 => ?_) (fun c5 => ?_)
  · have h := h.1 c5
    refine r_sub (lv2 := [(0, .ref (ad X k0)), (1, .int x1), (2, .int x2), (3, .int v3)]) [1, 2, 3, 0] rfl ?_
    exact hJ32  _ _ _ _ h
  · have h := h.2 c5
    obtain ⟨v6, ev6⟩ : ∃ z : Int32, z = v3 + 5 := ⟨_, rfl⟩
    replace h := h v6 ev6
    refine r_iinc (pc := 29) (v := v6) (lv2 := [(3, .int v6), (0, .ref (ad X k0)), (1, .int x1), (2, .int x2)]) C 0 dX6_leaningOf_29 rfl (by rw [ev6]; rfl) (by decide) rfl ?_
    refine r_sub (lv2 := [(0, .ref (ad X k0)), (1, .int x1), (2, .int x2), (3, .int v6)]) [1, 2, 3, 0] rfl ?_
    exact hJ32  _ _ _ _ h
theorem yd_X6_favourOf : yX6_favourOf.cls ≠ "java/lang/invoke/MethodHandle" ∧ yX6_favourOf.cls ≠ "java/lang/invoke/VarHandle" ∧ (parseMethodDescriptor yX6_favourOf.desc).map (fun d => d.parameters.length) = some 2 := by decide +kernel
def w_X6_favourOf (k0 : Nat) (M : Mem) (x1 : Int32) (x2 : Int32) (Q : Int32 → Mem → Prop) : Prop :=
  w_X6_leaningOf k0 M x1 x2 (fun r2 M1 => vp_in x1 6 ∧ (((¬ (M1 (k0 + 3) (Int32.toNatClampNeg x1)) = 5) → (Q r2 M1)) ∧ (((M1 (k0 + 3) (Int32.toNatClampNeg x1)) = 5) → (Q (if r2 < 0 then 0 else r2) M1))))
abbrev rm_X6_favourOf : Room := { frames := 6, cells := 0, slots := 0, locals := 120 }
set_option maxHeartbeats 4000000 in
set_option maxRecDepth 100000 in
theorem c_X6_favourOf (X : Cx) (k0 : Nat) (h0 : kd k0 = 6) (M : Mem) (x1 : Int32) (x2 : Int32) (Q : Int32 → Mem → Prop) (h : w_X6_favourOf k0 M x1 x2 Q) : Ct yX6_favourOf cX6_favourOf 4 (some .int) rm_X6_favourOf X M [.ref (ad X k0), .int x1, .int x2] (Qi X Q) := by
  refine ct_of (own := RX6) (lv := [(0, .ref (ad X k0)), (1, .int x1), (2, .int x2)]) rfl (by decide) (Nat.le_of_ble_eq_true rfl) rfl ?_
  intro K C
  unfold w_X6_favourOf at h
  refine r_aload_n (pc := 0) C 0 dX6_favourOf_0 rfl ?_
  refine r_iload_n (pc := 1) C 1 dX6_favourOf_1 rfl ?_
  refine r_iload_n (pc := 2) C 2 dX6_favourOf_2 rfl ?_
  have hM := c_X6_leaningOf X k0 h0 M x1 x2 _ h
  refine q_s0 (s1 := List.reverse [.int x1, .int x2] ++ .ref (ad X k0) :: []) rfl ?_
  refine r_callVi (pc := 3) (k := k0) (As := [.int x1, .int x2]) (st := []) C 2 (bdT h0) (ceT h0 _) rfl aw447 aw448 hM aw446 aw449 aw28 yd_X6_leaningOf ⟨rfl, rfl⟩ ⟨Nat.le_of_ble_eq_true rfl, Nat.le_of_ble_eq_true rfl⟩ rfl (Nat.le_of_ble_eq_true rfl) dX6_favourOf_3 (fun r2 M1 h => ?_)
  refine r_istore_n (pc := 6) (lv2 := [(3, .int r2), (0, .ref (ad X k0)), (1, .int x1), (2, .int x2)]) C dX6_favourOf_6 (by decide) rfl ?_
  refine r_aload_n (pc := 7) C 1 dX6_favourOf_7 rfl ?_
  refine r_get (pc := 8) (k := k0) (j := 8) (Cn := RX6) (T := TX6) (N := 16) C (bdT h0) (ceT h0 _) rfl iaX6 (by decide) aw68 rfl rfl dX6_favourOf_8 ?_
  refine r_iload_n (pc := 11) C 2 dX6_favourOf_11 rfl ?_
  obtain ⟨g3, h⟩ := h
  refine q_iald (pc := 12) (k := (k0 + 3)) (n := 6) (j := (Int32.toNatClampNeg x1)) C (bdT3 h0) (ceT3 h0 _) g3 rfl dX6_favourOf_12 ?_
  refine r_iconst (pc := 13) (v := 5) C dX6_favourOf_13 (by decide) ?_
  refine r_icmp_ne (pc := 14) (tgt := 25) C dX6_favourOf_14 (by decide) (fun c4 => ?_) (fun c4 => ?_)
  · have h := h.1 c4
    refine r_iload_n (pc := 25) C 0 dX6_favourOf_25 rfl ?_
    exact r_iret (pc := 26) C dX6_favourOf_26 h
  · have h := h.2 c4
    refine r_iload_n (pc := 17) C 0 dX6_favourOf_17 rfl ?_
    refine r_iconst (pc := 18) (v := 0) C dX6_favourOf_18 (by decide) ?_
    refine r_max (pc := 19) C aw442 (Nat.le_of_ble_eq_true rfl) (Nat.le_of_ble_eq_true rfl) dX6_favourOf_19 ?_
    refine r_goto (pc := 22) (tgt := 26) C dX6_favourOf_22 (by decide) ?_
    exact r_iret (pc := 26) C dX6_favourOf_26 h
theorem yd_J6_compare_7cf53 : yJ6_compare_7cf53.cls ≠ "java/lang/invoke/MethodHandle" ∧ yJ6_compare_7cf53.cls ≠ "java/lang/invoke/VarHandle" ∧ (parseMethodDescriptor yJ6_compare_7cf53.desc).map (fun d => d.parameters.length) = some 2 := by decide +kernel
def w_J6_compare_7cf53  (M : Mem) (x0 : Int32) (x1 : Int32) (Q : Int32 → Mem → Prop) : Prop :=
  ((x1 ≤ x0) → (((¬ x0 = x1) → (Q 1 M)) ∧ ((x0 = x1) → (Q 0 M)))) ∧ ((¬ x1 ≤ x0) → (Q (-1) M))
abbrev rm_J6_compare_7cf53 : Room := { frames := 3, cells := 0, slots := 0, locals := 60 }
set_option maxHeartbeats 4000000 in
set_option maxRecDepth 100000 in
theorem c_J6_compare_7cf53 (X : Cx)  (M : Mem) (x0 : Int32) (x1 : Int32) (Q : Int32 → Mem → Prop) (h : w_J6_compare_7cf53  M x0 x1 Q) : Ct yJ6_compare_7cf53 cJ6_compare_7cf53 2 (some .int) rm_J6_compare_7cf53 X M [.int x0, .int x1] (Qi X Q) := by
  refine ct_of (own := RJ6) (lv := [(0, .int x0), (1, .int x1)]) rfl (by decide) (Nat.le_of_ble_eq_true rfl) rfl ?_
  intro K C
  unfold w_J6_compare_7cf53 at h
  refine r_iload_n (pc := 0) C 0 dJ6_compare_7cf53_0 rfl ?_
  refine r_iload_n (pc := 1) C 1 dJ6_compare_7cf53_1 rfl ?_
  refine r_icmp_ge (pc := 2) (tgt := 9) C dJ6_compare_7cf53_2 (by decide) (fun c1 => ?_) (fun c1 => ?_)
  · have h := h.1 c1
    refine r_iload_n (pc := 9) C 0 dJ6_compare_7cf53_9 rfl ?_
    refine r_iload_n (pc := 10) C 1 dJ6_compare_7cf53_10 rfl ?_
    refine r_icmp_ne (pc := 11) (tgt := 18) C dJ6_compare_7cf53_11 (by decide) (fun c2 => ?_) (fun c2 => ?_)
    · have h := h.1 c2
      refine r_iconst (pc := 18) (v := 1) C dJ6_compare_7cf53_18 (by decide) ?_
      exact r_iret (pc := 19) C dJ6_compare_7cf53_19 h
    · have h := h.2 c2
      refine r_iconst (pc := 14) (v := 0) C dJ6_compare_7cf53_14 (by decide) ?_
      refine r_goto (pc := 15) (tgt := 19) C dJ6_compare_7cf53_15 (by decide) ?_
      exact r_iret (pc := 19) C dJ6_compare_7cf53_19 h
  · have h := h.2 c1
    refine r_iconst (pc := 5) (v := (-1)) C dJ6_compare_7cf53_5 (by decide) ?_
    refine r_goto (pc := 6) (tgt := 19) C dJ6_compare_7cf53_6 (by decide) ?_
    exact r_iret (pc := 19) C dJ6_compare_7cf53_19 h
theorem yd_X6_begin : yX6_begin.cls ≠ "java/lang/invoke/MethodHandle" ∧ yX6_begin.cls ≠ "java/lang/invoke/VarHandle" ∧ (parseMethodDescriptor yX6_begin.desc).map (fun d => d.parameters.length) = some 2 := by decide +kernel
def w_X6_begin (k0 : Nat) (M : Mem) (x1 : Int32) (x2 : Int32) (Q : Mem → Prop) : Prop :=
  ∀ M1 : Mem, M1 = ms M k0 0 x1 → (∀ M2 : Mem, M2 = ms M1 k0 1 x2 → (∀ M3 : Mem, M3 = ms M2 k0 2 0 → (∀ M4 : Mem, M4 = ms M3 k0 3 0 → (∀ M5 : Mem, M5 = ms M4 k0 4 0 → (∀ M6 : Mem, M6 = ms M5 k0 5 0 → (Q M6))))))
abbrev rm_X6_begin : Room := { frames := 3, cells := 0, slots := 0, locals := 60 }
set_option maxHeartbeats 4000000 in
set_option maxRecDepth 100000 in
theorem c_X6_begin (X : Cx) (k0 : Nat) (h0 : kd k0 = 6) (M : Mem) (x1 : Int32) (x2 : Int32) (Q : Mem → Prop) (h : w_X6_begin k0 M x1 x2 Q) : Ct yX6_begin cX6_begin 3 none rm_X6_begin X M [.ref (ad X k0), .int x1, .int x2] (Qv X Q) := by
  refine ct_of (own := RX6) (lv := [(0, .ref (ad X k0)), (1, .int x1), (2, .int x2)]) rfl (by decide) (Nat.le_of_ble_eq_true rfl) rfl ?_
  intro K C
  unfold w_X6_begin at h
  refine r_aload_n (pc := 0) C 0 dX6_begin_0 rfl ?_
  refine r_iload_n (pc := 1) C 1 dX6_begin_1 rfl ?_
  refine r_put (pc := 2) (k := k0) (j := 0) (Cn := RX6) (T := TX6) (N := 16) (host := "") C (bdT h0) (ceT h0 _) rfl iaX6 (by decide) (ceT h0 _) tyX6_ok nmX6 aw272 rfl rfl (tyX6_ok 0 (by decide)) (Nat.le_of_ble_eq_true rfl) dX6_begin_2 ?_
  refine r_topM (fun M1 eM1 => ?_)
  replace h := h M1 eM1
  refine r_aload_n (pc := 5) C 0 dX6_begin_5 rfl ?_
  refine r_iload_n (pc := 6) C 2 dX6_begin_6 rfl ?_
  refine r_put (pc := 7) (k := k0) (j := 1) (Cn := RX6) (T := TX6) (N := 16) (host := "") C (bdT h0) (ceT h0 _) rfl iaX6 (by decide) (ceT h0 _) tyX6_ok nmX6 aw273 rfl rfl (tyX6_ok 1 (by decide)) (Nat.le_of_ble_eq_true rfl) dX6_begin_7 ?_
  refine r_topM (fun M2 eM2 => ?_)
  replace h := h M2 eM2
  refine r_aload_n (pc := 10) C 0 dX6_begin_10 rfl ?_
  refine r_iconst (pc := 11) (v := 0) C dX6_begin_11 (by decide) ?_
  refine r_put (pc := 12) (k := k0) (j := 2) (Cn := RX6) (T := TX6) (N := 16) (host := "") C (bdT h0) (ceT h0 _) rfl iaX6 (by decide) (ceT h0 _) tyX6_ok nmX6 aw274 rfl rfl (tyX6_ok 2 (by decide)) (Nat.le_of_ble_eq_true rfl) dX6_begin_12 ?_
  refine r_topM (fun M3 eM3 => ?_)
  replace h := h M3 eM3
  refine r_aload_n (pc := 15) C 0 dX6_begin_15 rfl ?_
  refine r_iconst (pc := 16) (v := 0) C dX6_begin_16 (by decide) ?_
  refine r_put (pc := 17) (k := k0) (j := 3) (Cn := RX6) (T := TX6) (N := 16) (host := "") C (bdT h0) (ceT h0 _) rfl iaX6 (by decide) (ceT h0 _) tyX6_ok nmX6 aw275 rfl rfl (tyX6_ok 3 (by decide)) (Nat.le_of_ble_eq_true rfl) dX6_begin_17 ?_
  refine r_topM (fun M4 eM4 => ?_)
  replace h := h M4 eM4
  refine r_aload_n (pc := 20) C 0 dX6_begin_20 rfl ?_
  refine r_iconst (pc := 21) (v := 0) C dX6_begin_21 (by decide) ?_
  refine r_put (pc := 22) (k := k0) (j := 4) (Cn := RX6) (T := TX6) (N := 16) (host := "") C (bdT h0) (ceT h0 _) rfl iaX6 (by decide) (ceT h0 _) tyX6_ok nmX6 aw276 rfl rfl (tyX6_ok 4 (by decide)) (Nat.le_of_ble_eq_true rfl) dX6_begin_22 ?_
  refine r_topM (fun M5 eM5 => ?_)
  replace h := h M5 eM5
  refine r_aload_n (pc := 25) C 0 dX6_begin_25 rfl ?_
  refine r_iconst (pc := 26) (v := 0) C dX6_begin_26 (by decide) ?_
  refine r_put (pc := 27) (k := k0) (j := 5) (Cn := RX6) (T := TX6) (N := 16) (host := "") C (bdT h0) (ceT h0 _) rfl iaX6 (by decide) (ceT h0 _) tyX6_ok nmX6 aw277 rfl rfl (tyX6_ok 5 (by decide)) (Nat.le_of_ble_eq_true rfl) dX6_begin_27 ?_
  refine r_topM (fun M6 eM6 => ?_)
  replace h := h M6 eM6
  exact r_vret (pc := 30) C dX6_begin_30 h
theorem yd_X6_addDoor : yX6_addDoor.cls ≠ "java/lang/invoke/MethodHandle" ∧ yX6_addDoor.cls ≠ "java/lang/invoke/VarHandle" ∧ (parseMethodDescriptor yX6_addDoor.desc).map (fun d => d.parameters.length) = some 2 := by decide +kernel
def wB_X6_addDoor_22 (k0 : Nat) (Q : Mem → Prop)  (R22 : Mem → Int32 → Prop) (M : Mem) (x3 : Int32) : Prop :=
  ((6 ≤ x3) → (∀ v2 : Int32, v2 = ((M k0 2) + 1) → (∀ M3 : Mem, M3 = ms M k0 2 v2 → (Q M3)))) ∧ ((¬ 6 ≤ x3) → (w_X6_cellOf  M x3 (M k0 2) (fun r5 M4 => vp_in r5 36 ∧ (∀ M7 : Mem, M7 = ms M4 (k0 + 9) (Int32.toNatClampNeg r5) 0 → (w_X6_cellOf  M7 x3 (M7 k0 2) (fun r9 M8 => vp_in r9 36 ∧ (∀ M11 : Mem, M11 = ms M8 (k0 + 10) (Int32.toNatClampNeg r9) (-1000000) → (∀ v12 : Int32, v12 = x3 + 1 → (R22 M11 v12)))))))))
def wL_X6_addDoor_22 (k0 : Nat) (Q : Mem → Prop)  : Nat → Mem → Int32 → Prop
  | 0 => fun _ _ => False
  | n + 1 => fun M x3 => wB_X6_addDoor_22 k0 Q  (wL_X6_addDoor_22 k0 Q  n) M x3
theorem wL_X6_addDoor_22_s {k0 : Nat} {Q : Mem → Prop}  {n : Nat} {M : Mem} {x3 : Int32} (h : wL_X6_addDoor_22 k0 Q  (n + 1) M x3) : wB_X6_addDoor_22 k0 Q  (wL_X6_addDoor_22 k0 Q  n) M x3 := h
def w_X6_addDoor (k0 : Nat) (M : Mem) (x1 : Int32) (x2 : Int32) (Q : Mem → Prop) : Prop :=
  vp_in (M k0 2) 6 ∧ (∀ M2 : Mem, M2 = ms M (k0 + 1) (Int32.toNatClampNeg (M k0 2)) x1 → (vp_in (M2 k0 2) 6 ∧ (∀ M4 : Mem, M4 = ms M2 (k0 + 2) (Int32.toNatClampNeg (M2 k0 2)) x2 → (∃ n5 : Nat, wL_X6_addDoor_22 k0 Q  n5 M4 0))))
abbrev rm_X6_addDoor : Room := { frames := 6, cells := 0, slots := 0, locals := 120 }
set_option maxHeartbeats 4000000 in
set_option maxRecDepth 100000 in
theorem c_X6_addDoor (X : Cx) (k0 : Nat) (h0 : kd k0 = 6) (M : Mem) (x1 : Int32) (x2 : Int32) (Q : Mem → Prop) (h : w_X6_addDoor k0 M x1 x2 Q) : Ct yX6_addDoor cX6_addDoor 4 none rm_X6_addDoor X M [.ref (ad X k0), .int x1, .int x2] (Qv X Q) := by
  refine ct_of (own := RX6) (lv := [(0, .ref (ad X k0)), (1, .int x1), (2, .int x2)]) rfl (by decide) (Nat.le_of_ble_eq_true rfl) rfl ?_
  intro K C
  have hL22 : ∀  (n : Nat) (M : Mem) (x3 : Int32), wL_X6_addDoor_22 k0 Q  n M x3 → WX K X 4 (Qv X Q) M 22 [(0, .ref (ad X k0)), (3, .int x3)] [] := by
    intro  n
    induction n with
    | zero => intro M x3 h; exact absurd h id
    | succ n ih =>
      intro M x3 h
      replace h := wL_X6_addDoor_22_s h
      unfold wB_X6_addDoor_22 at h
      refine r_iload_n (pc := 22) C 1 dX6_addDoor_22 rfl ?_
      refine r_bipush (pc := 23) (v := 6) C dX6_addDoor_23 (by decide) ?_
      refine r_icmp_ge (pc := 25) (tgt := 63) C dX6_addDoor_25 (by decide) (fun c1 => ?_) (fun c1 => ?_)
      · have h := h.1 c1
        refine r_aload_n (pc := 63) C 0 dX6_addDoor_63 rfl ?_
        refine r_dup (pc := 64) C dX6_addDoor_64 rfl ?_
        refine r_get (pc := 65) (k := k0) (j := 2) (Cn := RX6) (T := TX6) (N := 16) C (bdT h0) (ceT h0 _) rfl iaX6 (by decide) aw274 rfl rfl dX6_addDoor_65 ?_
        refine r_iconst (pc := 68) (v := 1) C dX6_addDoor_68 (by decide) ?_
        refine r_iadd (pc := 69) C dX6_addDoor_69 ?_
        refine r_topi (fun v2 ev2 => ?_)
        replace h := h v2 ev2
        refine r_put (pc := 70) (k := k0) (j := 2) (Cn := RX6) (T := TX6) (N := 16) (host := "") C (bdT h0) (ceT h0 _) rfl iaX6 (by decide) (ceT h0 _) tyX6_ok nmX6 aw274 rfl rfl (tyX6_ok 2 (by decide)) (Nat.le_of_ble_eq_true rfl) dX6_addDoor_70 ?_
        refine r_topM (fun M3 eM3 => ?_)
        replace h := h M3 eM3
        exact r_vret (pc := 73) C dX6_addDoor_73 h
      · have h := h.2 c1
        refine r_aload_n (pc := 28) C 0 dX6_addDoor_28 rfl ?_
        refine r_get (pc := 29) (k := k0) (j := 14) (Cn := RX6) (T := TX6) (N := 16) C (bdT h0) (ceT h0 _) rfl iaX6 (by decide) aw74 rfl rfl dX6_addDoor_29 ?_
        refine r_iload_n (pc := 32) C 1 dX6_addDoor_32 rfl ?_
        refine r_aload_n (pc := 33) C 0 dX6_addDoor_33 rfl ?_
        refine r_get (pc := 34) (k := k0) (j := 2) (Cn := RX6) (T := TX6) (N := 16) C (bdT h0) (ceT h0 _) rfl iaX6 (by decide) aw274 rfl rfl dX6_addDoor_34 ?_
        have hM := c_X6_cellOf X  M x3 (M k0 2) _ h
        refine q_s0 (s1 := List.reverse [.int x3, .int (M k0 2)] ++ [.ref (ad X (k0 + 9))]) rfl ?_
        refine r_callSi (pc := 37) (As := [.int x3, .int (M k0 2)]) (st := [.ref (ad X (k0 + 9))]) C 2 hM aw286 aw287 aw288 aw28 yd_X6_cellOf ⟨rfl, rfl⟩ ⟨Nat.le_of_ble_eq_true rfl, Nat.le_of_ble_eq_true rfl⟩ rfl (Nat.le_of_ble_eq_true rfl) dX6_addDoor_37 (fun r5 M4 h => ?_)
        refine r_iconst (pc := 40) (v := 0) C dX6_addDoor_40 (by decide) ?_
        obtain ⟨g6, h⟩ := h
        refine q_iast (pc := 41) (k := (k0 + 9)) (n := 36) (j := (Int32.toNatClampNeg r5)) C (bdT9 h0) (ceT9 h0) g6 rfl dX6_addDoor_41 ?_
        refine r_topM (fun M7 eM7 => ?_)
        replace h := h M7 eM7
        refine r_aload_n (pc := 42) C 0 dX6_addDoor_42 rfl ?_
        refine r_get (pc := 43) (k := k0) (j := 15) (Cn := RX6) (T := TX6) (N := 16) C (bdT h0) (ceT h0 _) rfl iaX6 (by decide) aw75 rfl rfl dX6_addDoor_43 ?_
        refine r_iload_n (pc := 46) C 1 dX6_addDoor_46 rfl ?_
        refine r_aload_n (pc := 47) C 0 dX6_addDoor_47 rfl ?_
        refine r_get (pc := 48) (k := k0) (j := 2) (Cn := RX6) (T := TX6) (N := 16) C (bdT h0) (ceT h0 _) rfl iaX6 (by decide) aw274 rfl rfl dX6_addDoor_48 ?_
        have hM := c_X6_cellOf X  M7 x3 (M7 k0 2) _ h
        refine q_s0 (s1 := List.reverse [.int x3, .int (M7 k0 2)] ++ [.ref (ad X (k0 + 10))]) rfl ?_
        refine r_callSi (pc := 51) (As := [.int x3, .int (M7 k0 2)]) (st := [.ref (ad X (k0 + 10))]) C 2 hM aw286 aw287 aw288 aw28 yd_X6_cellOf ⟨rfl, rfl⟩ ⟨Nat.le_of_ble_eq_true rfl, Nat.le_of_ble_eq_true rfl⟩ rfl (Nat.le_of_ble_eq_true rfl) dX6_addDoor_51 (fun r9 M8 h => ?_)
        refine r_ldc (pc := 54) C aw285 dX6_addDoor_54 ?_
        obtain ⟨g10, h⟩ := h
        refine q_iast (pc := 56) (k := (k0 + 10)) (n := 36) (j := (Int32.toNatClampNeg r9)) C (bdT10 h0) (ceT10 h0) g10 rfl dX6_addDoor_56 ?_
        refine r_topM (fun M11 eM11 => ?_)
        replace h := h M11 eM11
        obtain ⟨v12, ev12⟩ : ∃ z : Int32, z = x3 + 1 := ⟨_, rfl⟩
        replace h := h v12 ev12
        refine r_iinc (pc := 57) (v := v12) (lv2 := [(3, .int v12), (0, .ref (ad X k0))]) C 1 dX6_addDoor_57 rfl (by rw [ev12]; rfl) (by decide) rfl ?_
        refine r_goto (pc := 60) (tgt := 22) C dX6_addDoor_60 (by decide) ?_
        refine r_sub (lv2 := [(0, .ref (ad X k0)), (3, .int v12)]) [1, 0] rfl ?_
        exact ih _ _ h
  unfold w_X6_addDoor at h
  refine r_aload_n (pc := 0) C 0 dX6_addDoor_0 rfl ?_
  refine r_get (pc := 1) (k := k0) (j := 6) (Cn := RX6) (T := TX6) (N := 16) C (bdT h0) (ceT h0 _) rfl iaX6 (by decide) aw66 rfl rfl dX6_addDoor_1 ?_
  refine r_aload_n (pc := 4) C 0 dX6_addDoor_4 rfl ?_
  refine r_get (pc := 5) (k := k0) (j := 2) (Cn := RX6) (T := TX6) (N := 16) C (bdT h0) (ceT h0 _) rfl iaX6 (by decide) aw274 rfl rfl dX6_addDoor_5 ?_
  refine r_iload_n (pc := 8) C 1 dX6_addDoor_8 rfl ?_
  obtain ⟨g1, h⟩ := h
  refine q_iast (pc := 9) (k := (k0 + 1)) (n := 6) (j := (Int32.toNatClampNeg (M k0 2))) C (bdT1 h0) (ceT1 h0) g1 rfl dX6_addDoor_9 ?_
  refine r_topM (fun M2 eM2 => ?_)
  replace h := h M2 eM2
  refine r_aload_n (pc := 10) C 0 dX6_addDoor_10 rfl ?_
  refine r_get (pc := 11) (k := k0) (j := 7) (Cn := RX6) (T := TX6) (N := 16) C (bdT h0) (ceT h0 _) rfl iaX6 (by decide) aw67 rfl rfl dX6_addDoor_11 ?_
  refine r_aload_n (pc := 14) C 0 dX6_addDoor_14 rfl ?_
  refine r_get (pc := 15) (k := k0) (j := 2) (Cn := RX6) (T := TX6) (N := 16) C (bdT h0) (ceT h0 _) rfl iaX6 (by decide) aw274 rfl rfl dX6_addDoor_15 ?_
  refine r_iload_n (pc := 18) C 2 dX6_addDoor_18 rfl ?_
  obtain ⟨g3, h⟩ := h
  refine q_iast (pc := 19) (k := (k0 + 2)) (n := 6) (j := (Int32.toNatClampNeg (M2 k0 2))) C (bdT2 h0) (ceT2 h0) g3 rfl dX6_addDoor_19 ?_
  refine r_topM (fun M4 eM4 => ?_)
  replace h := h M4 eM4
  refine r_iconst (pc := 20) (v := 0) C dX6_addDoor_20 (by decide) ?_
  refine r_istore_n (pc := 21) (lv2 := [(3, .int 0), (0, .ref (ad X k0)), (1, .int x1), (2, .int x2)]) C dX6_addDoor_21 (by decide) rfl ?_
  obtain ⟨n5, h⟩ := h
  refine r_sub (lv2 := [(0, .ref (ad X k0)), (3, .int 0)]) [1, 0] rfl ?_
  exact hL22  _ _ _ h
theorem yd_X6_addPerson : yX6_addPerson.cls ≠ "java/lang/invoke/MethodHandle" ∧ yX6_addPerson.cls ≠ "java/lang/invoke/VarHandle" ∧ (parseMethodDescriptor yX6_addPerson.desc).map (fun d => d.parameters.length) = some 3 := by decide +kernel
def w_X6_addPerson (k0 : Nat) (M : Mem) (x1 : Int32) (x2 : Int32) (x3 : Int32) (Q : Mem → Prop) : Prop :=
  vp_in (M k0 3) 6 ∧ (∀ M2 : Mem, M2 = ms M (k0 + 3) (Int32.toNatClampNeg (M k0 3)) x1 → (vp_in (M2 k0 3) 6 ∧ (∀ M4 : Mem, M4 = ms M2 (k0 + 4) (Int32.toNatClampNeg (M2 k0 3)) x2 → (vp_in (M4 k0 3) 6 ∧ (∀ M6 : Mem, M6 = ms M4 (k0 + 5) (Int32.toNatClampNeg (M4 k0 3)) x3 → (vp_in (M6 k0 3) 6 ∧ (∀ M8 : Mem, M8 = ms M6 (k0 + 6) (Int32.toNatClampNeg (M6 k0 3)) 0 → (vp_in (M8 k0 3) 6 ∧ (∀ M10 : Mem, M10 = ms M8 (k0 + 7) (Int32.toNatClampNeg (M8 k0 3)) 0 → (vp_in (M10 k0 3) 6 ∧ (∀ M12 : Mem, M12 = ms M10 (k0 + 8) (Int32.toNatClampNeg (M10 k0 3)) 0 → (∀ v13 : Int32, v13 = ((M12 k0 3) + 1) → (∀ M14 : Mem, M14 = ms M12 k0 3 v13 → (Q M14))))))))))))))
abbrev rm_X6_addPerson : Room := { frames := 3, cells := 0, slots := 0, locals := 60 }
set_option maxHeartbeats 4000000 in
set_option maxRecDepth 100000 in
theorem c_X6_addPerson (X : Cx) (k0 : Nat) (h0 : kd k0 = 6) (M : Mem) (x1 : Int32) (x2 : Int32) (x3 : Int32) (Q : Mem → Prop) (h : w_X6_addPerson k0 M x1 x2 x3 Q) : Ct yX6_addPerson cX6_addPerson 4 none rm_X6_addPerson X M [.ref (ad X k0), .int x1, .int x2, .int x3] (Qv X Q) := by
  refine ct_of (own := RX6) (lv := [(0, .ref (ad X k0)), (1, .int x1), (2, .int x2), (3, .int x3)]) rfl (by decide) (Nat.le_of_ble_eq_true rfl) rfl ?_
  intro K C
  unfold w_X6_addPerson at h
  refine r_aload_n (pc := 0) C 0 dX6_addPerson_0 rfl ?_
  refine r_get (pc := 1) (k := k0) (j := 8) (Cn := RX6) (T := TX6) (N := 16) C (bdT h0) (ceT h0 _) rfl iaX6 (by decide) aw68 rfl rfl dX6_addPerson_1 ?_
  refine r_aload_n (pc := 4) C 0 dX6_addPerson_4 rfl ?_
  refine r_get (pc := 5) (k := k0) (j := 3) (Cn := RX6) (T := TX6) (N := 16) C (bdT h0) (ceT h0 _) rfl iaX6 (by decide) aw275 rfl rfl dX6_addPerson_5 ?_
  refine r_iload_n (pc := 8) C 1 dX6_addPerson_8 rfl ?_
  obtain ⟨g1, h⟩ := h
  refine q_iast (pc := 9) (k := (k0 + 3)) (n := 6) (j := (Int32.toNatClampNeg (M k0 3))) C (bdT3 h0) (ceT3 h0) g1 rfl dX6_addPerson_9 ?_
  refine r_topM (fun M2 eM2 => ?_)
  replace h := h M2 eM2
  refine r_aload_n (pc := 10) C 0 dX6_addPerson_10 rfl ?_
  refine r_get (pc := 11) (k := k0) (j := 9) (Cn := RX6) (T := TX6) (N := 16) C (bdT h0) (ceT h0 _) rfl iaX6 (by decide) aw69 rfl rfl dX6_addPerson_11 ?_
  refine r_aload_n (pc := 14) C 0 dX6_addPerson_14 rfl ?_
  refine r_get (pc := 15) (k := k0) (j := 3) (Cn := RX6) (T := TX6) (N := 16) C (bdT h0) (ceT h0 _) rfl iaX6 (by decide) aw275 rfl rfl dX6_addPerson_15 ?_
  refine r_iload_n (pc := 18) C 2 dX6_addPerson_18 rfl ?_
  obtain ⟨g3, h⟩ := h
  refine q_iast (pc := 19) (k := (k0 + 4)) (n := 6) (j := (Int32.toNatClampNeg (M2 k0 3))) C (bdT4 h0) (ceT4 h0) g3 rfl dX6_addPerson_19 ?_
  refine r_topM (fun M4 eM4 => ?_)
  replace h := h M4 eM4
  refine r_aload_n (pc := 20) C 0 dX6_addPerson_20 rfl ?_
  refine r_get (pc := 21) (k := k0) (j := 10) (Cn := RX6) (T := TX6) (N := 16) C (bdT h0) (ceT h0 _) rfl iaX6 (by decide) aw70 rfl rfl dX6_addPerson_21 ?_
  refine r_aload_n (pc := 24) C 0 dX6_addPerson_24 rfl ?_
  refine r_get (pc := 25) (k := k0) (j := 3) (Cn := RX6) (T := TX6) (N := 16) C (bdT h0) (ceT h0 _) rfl iaX6 (by decide) aw275 rfl rfl dX6_addPerson_25 ?_
  refine r_iload_n (pc := 28) C 3 dX6_addPerson_28 rfl ?_
  obtain ⟨g5, h⟩ := h
  refine q_iast (pc := 29) (k := (k0 + 5)) (n := 6) (j := (Int32.toNatClampNeg (M4 k0 3))) C (bdT5 h0) (ceT5 h0) g5 rfl dX6_addPerson_29 ?_
  refine r_topM (fun M6 eM6 => ?_)
  replace h := h M6 eM6
  refine r_aload_n (pc := 30) C 0 dX6_addPerson_30 rfl ?_
  refine r_get (pc := 31) (k := k0) (j := 11) (Cn := RX6) (T := TX6) (N := 16) C (bdT h0) (ceT h0 _) rfl iaX6 (by decide) aw71 rfl rfl dX6_addPerson_31 ?_
  refine r_aload_n (pc := 34) C 0 dX6_addPerson_34 rfl ?_
  refine r_get (pc := 35) (k := k0) (j := 3) (Cn := RX6) (T := TX6) (N := 16) C (bdT h0) (ceT h0 _) rfl iaX6 (by decide) aw275 rfl rfl dX6_addPerson_35 ?_
  refine r_iconst (pc := 38) (v := 0) C dX6_addPerson_38 (by decide) ?_
  obtain ⟨g7, h⟩ := h
  refine q_iast (pc := 39) (k := (k0 + 6)) (n := 6) (j := (Int32.toNatClampNeg (M6 k0 3))) C (bdT6 h0) (ceT6 h0) g7 rfl dX6_addPerson_39 ?_
  refine r_topM (fun M8 eM8 => ?_)
  replace h := h M8 eM8
  refine r_aload_n (pc := 40) C 0 dX6_addPerson_40 rfl ?_
  refine r_get (pc := 41) (k := k0) (j := 12) (Cn := RX6) (T := TX6) (N := 16) C (bdT h0) (ceT h0 _) rfl iaX6 (by decide) aw72 rfl rfl dX6_addPerson_41 ?_
  refine r_aload_n (pc := 44) C 0 dX6_addPerson_44 rfl ?_
  refine r_get (pc := 45) (k := k0) (j := 3) (Cn := RX6) (T := TX6) (N := 16) C (bdT h0) (ceT h0 _) rfl iaX6 (by decide) aw275 rfl rfl dX6_addPerson_45 ?_
  refine r_iconst (pc := 48) (v := 0) C dX6_addPerson_48 (by decide) ?_
  obtain ⟨g9, h⟩ := h
  refine q_iast (pc := 49) (k := (k0 + 7)) (n := 6) (j := (Int32.toNatClampNeg (M8 k0 3))) C (bdT7 h0) (ceT7 h0) g9 rfl dX6_addPerson_49 ?_
  refine r_topM (fun M10 eM10 => ?_)
  replace h := h M10 eM10
  refine r_aload_n (pc := 50) C 0 dX6_addPerson_50 rfl ?_
  refine r_get (pc := 51) (k := k0) (j := 13) (Cn := RX6) (T := TX6) (N := 16) C (bdT h0) (ceT h0 _) rfl iaX6 (by decide) aw73 rfl rfl dX6_addPerson_51 ?_
  refine r_aload_n (pc := 54) C 0 dX6_addPerson_54 rfl ?_
  refine r_get (pc := 55) (k := k0) (j := 3) (Cn := RX6) (T := TX6) (N := 16) C (bdT h0) (ceT h0 _) rfl iaX6 (by decide) aw275 rfl rfl dX6_addPerson_55 ?_
  refine r_iconst (pc := 58) (v := 0) C dX6_addPerson_58 (by decide) ?_
  obtain ⟨g11, h⟩ := h
  refine q_iast (pc := 59) (k := (k0 + 8)) (n := 6) (j := (Int32.toNatClampNeg (M10 k0 3))) C (bdT8 h0) (ceT8 h0) g11 rfl dX6_addPerson_59 ?_
  refine r_topM (fun M12 eM12 => ?_)
  replace h := h M12 eM12
  refine r_aload_n (pc := 60) C 0 dX6_addPerson_60 rfl ?_
  refine r_dup (pc := 61) C dX6_addPerson_61 rfl ?_
  refine r_get (pc := 62) (k := k0) (j := 3) (Cn := RX6) (T := TX6) (N := 16) C (bdT h0) (ceT h0 _) rfl iaX6 (by decide) aw275 rfl rfl dX6_addPerson_62 ?_
  refine r_iconst (pc := 65) (v := 1) C dX6_addPerson_65 (by decide) ?_
  refine r_iadd (pc := 66) C dX6_addPerson_66 ?_
  refine r_topi (fun v13 ev13 => ?_)
  replace h := h v13 ev13
  refine r_put (pc := 67) (k := k0) (j := 3) (Cn := RX6) (T := TX6) (N := 16) (host := "") C (bdT h0) (ceT h0 _) rfl iaX6 (by decide) (ceT h0 _) tyX6_ok nmX6 aw275 rfl rfl (tyX6_ok 3 (by decide)) (Nat.le_of_ble_eq_true rfl) dX6_addPerson_67 ?_
  refine r_topM (fun M14 eM14 => ?_)
  replace h := h M14 eM14
  exact r_vret (pc := 70) C dX6_addPerson_70 h
theorem yd_X6_tiedTo : yX6_tiedTo.cls ≠ "java/lang/invoke/MethodHandle" ∧ yX6_tiedTo.cls ≠ "java/lang/invoke/VarHandle" ∧ (parseMethodDescriptor yX6_tiedTo.desc).map (fun d => d.parameters.length) = some 1 := by decide +kernel
def w_X6_tiedTo (k0 : Nat) (M : Mem) (x1 : Int32) (Q : Int32 → Mem → Prop) : Prop :=
  vp_in x1 6 ∧ (vp_in x1 6 ∧ (Q ((M (k0 + 7) (Int32.toNatClampNeg x1)) ||| (M (k0 + 8) (Int32.toNatClampNeg x1))) M))
abbrev rm_X6_tiedTo : Room := { frames := 3, cells := 0, slots := 0, locals := 60 }
set_option maxHeartbeats 4000000 in
set_option maxRecDepth 100000 in
theorem c_X6_tiedTo (X : Cx) (k0 : Nat) (h0 : kd k0 = 6) (M : Mem) (x1 : Int32) (Q : Int32 → Mem → Prop) (h : w_X6_tiedTo k0 M x1 Q) : Ct yX6_tiedTo cX6_tiedTo 2 (some .int) rm_X6_tiedTo X M [.ref (ad X k0), .int x1] (Qi X Q) := by
  refine ct_of (own := RX6) (lv := [(0, .ref (ad X k0)), (1, .int x1)]) rfl (by decide) (Nat.le_of_ble_eq_true rfl) rfl ?_
  intro K C
  unfold w_X6_tiedTo at h
  refine r_aload_n (pc := 0) C 0 dX6_tiedTo_0 rfl ?_
  refine r_get (pc := 1) (k := k0) (j := 12) (Cn := RX6) (T := TX6) (N := 16) C (bdT h0) (ceT h0 _) rfl iaX6 (by decide) aw72 rfl rfl dX6_tiedTo_1 ?_
  refine r_iload_n (pc := 4) C 1 dX6_tiedTo_4 rfl ?_
  obtain ⟨g1, h⟩ := h
  refine q_iald (pc := 5) (k := (k0 + 7)) (n := 6) (j := (Int32.toNatClampNeg x1)) C (bdT7 h0) (ceT7 h0 _) g1 rfl dX6_tiedTo_5 ?_
  refine r_aload_n (pc := 6) C 0 dX6_tiedTo_6 rfl ?_
  refine r_get (pc := 7) (k := k0) (j := 13) (Cn := RX6) (T := TX6) (N := 16) C (bdT h0) (ceT h0 _) rfl iaX6 (by decide) aw73 rfl rfl dX6_tiedTo_7 ?_
  refine r_iload_n (pc := 10) C 1 dX6_tiedTo_10 rfl ?_
  obtain ⟨g2, h⟩ := h
  refine q_iald (pc := 11) (k := (k0 + 8)) (n := 6) (j := (Int32.toNatClampNeg x1)) C (bdT8 h0) (ceT8 h0 _) g2 rfl dX6_tiedTo_11 ?_
  refine r_ior (pc := 12) C dX6_tiedTo_12 ?_
  exact r_iret (pc := 13) C dX6_tiedTo_13 h
theorem yd_X6_addTie : yX6_addTie.cls ≠ "java/lang/invoke/MethodHandle" ∧ yX6_addTie.cls ≠ "java/lang/invoke/VarHandle" ∧ (parseMethodDescriptor yX6_addTie.desc).map (fun d => d.parameters.length) = some 3 := by decide +kernel
def w_X6_addTie (k0 : Nat) (k1 : Nat) (M : Mem) (x2 : Int32) (x3 : Int32) (Q : Mem → Prop) : Prop :=
  vp_in x2 (ln k1) ∧ (∀ v2 : Int32, v2 = ((M k1 (Int32.toNatClampNeg x2)) ||| (1 <<< (x3 &&& 31))) → (vp_in x2 (ln k1) ∧ (∀ M4 : Mem, M4 = ms M k1 (Int32.toNatClampNeg x2) v2 → (vp_in x3 (ln k1) ∧ (∀ v6 : Int32, v6 = ((M4 k1 (Int32.toNatClampNeg x3)) ||| (1 <<< (x2 &&& 31))) → (vp_in x3 (ln k1) ∧ (∀ M8 : Mem, M8 = ms M4 k1 (Int32.toNatClampNeg x3) v6 → (∀ v9 : Int32, v9 = ((M8 k0 4) + 1) → (∀ M10 : Mem, M10 = ms M8 k0 4 v9 → (Q M10))))))))))
abbrev rm_X6_addTie : Room := { frames := 3, cells := 0, slots := 0, locals := 60 }
set_option maxHeartbeats 4000000 in
set_option maxRecDepth 100000 in
theorem c_X6_addTie (X : Cx) (k0 : Nat) (h0 : kd k0 = 6) (k1 : Nat) (h1 : kd k1 = 10) (M : Mem) (x2 : Int32) (x3 : Int32) (Q : Mem → Prop) (h : w_X6_addTie k0 k1 M x2 x3 Q) : Ct yX6_addTie cX6_addTie 4 none rm_X6_addTie X M [.ref (ad X k0), .ref (ad X k1), .int x2, .int x3] (Qv X Q) := by
  refine ct_of (own := RX6) (lv := [(0, .ref (ad X k0)), (1, .ref (ad X k1)), (2, .int x2), (3, .int x3)]) rfl (by decide) (Nat.le_of_ble_eq_true rfl) rfl ?_
  intro K C
  unfold w_X6_addTie at h
  refine r_aload_n (pc := 0) C 1 dX6_addTie_0 rfl ?_
  refine r_iload_n (pc := 1) C 2 dX6_addTie_1 rfl ?_
  refine r_dup2 (pc := 2) C dX6_addTie_2 rfl rfl ?_
  obtain ⟨g1, h⟩ := h
  refine q_iald (pc := 3) (k := k1) (n := (ln k1)) (j := (Int32.toNatClampNeg x2)) C (bdA h1) (ceA h1 _) g1 rfl dX6_addTie_3 ?_
  refine r_iconst (pc := 4) (v := 1) C dX6_addTie_4 (by decide) ?_
  refine r_iload_n (pc := 5) C 3 dX6_addTie_5 rfl ?_
  refine r_ishl (pc := 6) C dX6_addTie_6 ?_
  refine r_ior (pc := 7) C dX6_addTie_7 ?_
  refine r_topi (fun v2 ev2 => ?_)
  replace h := h v2 ev2
  obtain ⟨g3, h⟩ := h
  refine q_iast (pc := 8) (k := k1) (n := (ln k1)) (j := (Int32.toNatClampNeg x2)) C (bdA h1) (ceA h1) g3 rfl dX6_addTie_8 ?_
  refine r_topM (fun M4 eM4 => ?_)
  replace h := h M4 eM4
  refine r_aload_n (pc := 9) C 1 dX6_addTie_9 rfl ?_
  refine r_iload_n (pc := 10) C 3 dX6_addTie_10 rfl ?_
  refine r_dup2 (pc := 11) C dX6_addTie_11 rfl rfl ?_
  obtain ⟨g5, h⟩ := h
  refine q_iald (pc := 12) (k := k1) (n := (ln k1)) (j := (Int32.toNatClampNeg x3)) C (bdA h1) (ceA h1 _) g5 rfl dX6_addTie_12 ?_
  refine r_iconst (pc := 13) (v := 1) C dX6_addTie_13 (by decide) ?_
  refine r_iload_n (pc := 14) C 2 dX6_addTie_14 rfl ?_
  refine r_ishl (pc := 15) C dX6_addTie_15 ?_
  refine r_ior (pc := 16) C dX6_addTie_16 ?_
  refine r_topi (fun v6 ev6 => ?_)
  replace h := h v6 ev6
  obtain ⟨g7, h⟩ := h
  refine q_iast (pc := 17) (k := k1) (n := (ln k1)) (j := (Int32.toNatClampNeg x3)) C (bdA h1) (ceA h1) g7 rfl dX6_addTie_17 ?_
  refine r_topM (fun M8 eM8 => ?_)
  replace h := h M8 eM8
  refine r_aload_n (pc := 18) C 0 dX6_addTie_18 rfl ?_
  refine r_dup (pc := 19) C dX6_addTie_19 rfl ?_
  refine r_get (pc := 20) (k := k0) (j := 4) (Cn := RX6) (T := TX6) (N := 16) C (bdT h0) (ceT h0 _) rfl iaX6 (by decide) aw276 rfl rfl dX6_addTie_20 ?_
  refine r_iconst (pc := 23) (v := 1) C dX6_addTie_23 (by decide) ?_
  refine r_iadd (pc := 24) C dX6_addTie_24 ?_
  refine r_topi (fun v9 ev9 => ?_)
  replace h := h v9 ev9
  refine r_put (pc := 25) (k := k0) (j := 4) (Cn := RX6) (T := TX6) (N := 16) (host := "") C (bdT h0) (ceT h0 _) rfl iaX6 (by decide) (ceT h0 _) tyX6_ok nmX6 aw276 rfl rfl (tyX6_ok 4 (by decide)) (Nat.le_of_ble_eq_true rfl) dX6_addTie_25 ?_
  refine r_topM (fun M10 eM10 => ?_)
  replace h := h M10 eM10
  exact r_vret (pc := 28) C dX6_addTie_28 h
theorem yd_J7_fill_53178 : yJ7_fill_53178.cls ≠ "java/lang/invoke/MethodHandle" ∧ yJ7_fill_53178.cls ≠ "java/lang/invoke/VarHandle" ∧ (parseMethodDescriptor yJ7_fill_53178.desc).map (fun d => d.parameters.length) = some 2 := by decide +kernel
def wB_J7_fill_53178_5 (k0 : Nat) (Q : Mem → Prop)  (R5 : Mem → Int32 → Int32 → Int32 → Prop) (M : Mem) (x1 : Int32) (x2 : Int32) (x3 : Int32) : Prop :=
  ((x3 ≤ x2) → (Q M)) ∧ ((¬ x3 ≤ x2) → (vp_in x2 (ln k0) ∧ (∀ M3 : Mem, M3 = ms M k0 (Int32.toNatClampNeg x2) x1 → (∀ v4 : Int32, v4 = x2 + 1 → (R5 M3 x1 v4 x3)))))
def wL_J7_fill_53178_5 (k0 : Nat) (Q : Mem → Prop)  : Nat → Mem → Int32 → Int32 → Int32 → Prop
  | 0 => fun _ _ _ _ => False
  | n + 1 => fun M x1 x2 x3 => wB_J7_fill_53178_5 k0 Q  (wL_J7_fill_53178_5 k0 Q  n) M x1 x2 x3
theorem wL_J7_fill_53178_5_s {k0 : Nat} {Q : Mem → Prop}  {n : Nat} {M : Mem} {x1 : Int32} {x2 : Int32} {x3 : Int32} (h : wL_J7_fill_53178_5 k0 Q  (n + 1) M x1 x2 x3) : wB_J7_fill_53178_5 k0 Q  (wL_J7_fill_53178_5 k0 Q  n) M x1 x2 x3 := h
def w_J7_fill_53178 (k0 : Nat) (M : Mem) (x1 : Int32) (Q : Mem → Prop) : Prop :=
  ∀ v1 : Int32, v1 = (Int32.ofNat (ln k0)) → (∃ n2 : Nat, wL_J7_fill_53178_5 k0 Q  n2 M x1 0 v1)
abbrev rm_J7_fill_53178 : Room := { frames := 3, cells := 0, slots := 0, locals := 60 }
set_option maxHeartbeats 4000000 in
set_option maxRecDepth 100000 in
theorem c_J7_fill_53178 (X : Cx) (k0 : Nat) (h0 : kd k0 = 10) (M : Mem) (x1 : Int32) (Q : Mem → Prop) (h : w_J7_fill_53178 k0 M x1 Q) : Ct yJ7_fill_53178 cJ7_fill_53178 4 none rm_J7_fill_53178 X M [.ref (ad X k0), .int x1] (Qv X Q) := by
  refine ct_of (own := RJ7) (lv := [(0, .ref (ad X k0)), (1, .int x1)]) rfl (by decide) (Nat.le_of_ble_eq_true rfl) rfl ?_
  intro K C
  have hL5 : ∀  (n : Nat) (M : Mem) (x1 : Int32) (x2 : Int32) (x3 : Int32), wL_J7_fill_53178_5 k0 Q  n M x1 x2 x3 → WX K X 4 (Qv X Q) M 5 [(0, .ref (ad X k0)), (1, .int x1), (2, .int x2), (3, .int x3)] [] := by
    intro  n
    induction n with
    | zero => intro M x1 x2 x3 h; exact absurd h id
    | succ n ih =>
      intro M x1 x2 x3 h
      replace h := wL_J7_fill_53178_5_s h
      unfold wB_J7_fill_53178_5 at h
      refine r_iload_n (pc := 5) C 2 dJ7_fill_53178_5 rfl ?_
      refine r_iload_n (pc := 6) C 3 dJ7_fill_53178_6 rfl ?_
      refine r_icmp_ge (pc := 7) (tgt := 20) C dJ7_fill_53178_7 (by decide) (fun c1 => ?_) (fun c1 => ?_)
      · have h := h.1 c1
        exact r_vret (pc := 20) C dJ7_fill_53178_20 h
      · have h := h.2 c1
        refine r_aload_n (pc := 10) C 0 dJ7_fill_53178_10 rfl ?_
        refine r_iload_n (pc := 11) C 2 dJ7_fill_53178_11 rfl ?_
        refine r_iload_n (pc := 12) C 1 dJ7_fill_53178_12 rfl ?_
        obtain ⟨g2, h⟩ := h
        refine q_iast (pc := 13) (k := k0) (n := (ln k0)) (j := (Int32.toNatClampNeg x2)) C (bdA h0) (ceA h0) g2 rfl dJ7_fill_53178_13 ?_
        refine r_topM (fun M3 eM3 => ?_)
        replace h := h M3 eM3
        obtain ⟨v4, ev4⟩ : ∃ z : Int32, z = x2 + 1 := ⟨_, rfl⟩
        replace h := h v4 ev4
        refine r_iinc (pc := 14) (v := v4) (lv2 := [(2, .int v4), (0, .ref (ad X k0)), (1, .int x1), (3, .int x3)]) C 2 dJ7_fill_53178_14 rfl (by rw [ev4]; rfl) (by decide) rfl ?_
        refine r_goto (pc := 17) (tgt := 5) C dJ7_fill_53178_17 (by decide) ?_
        refine r_sub (lv2 := [(0, .ref (ad X k0)), (1, .int x1), (2, .int v4), (3, .int x3)]) [1, 2, 0, 3] rfl ?_
        exact ih _ _ _ _ h
  unfold w_J7_fill_53178 at h
  refine r_iconst (pc := 0) (v := 0) C dJ7_fill_53178_0 (by decide) ?_
  refine r_istore_n (pc := 1) (lv2 := [(2, .int 0), (0, .ref (ad X k0)), (1, .int x1)]) C dJ7_fill_53178_1 (by decide) rfl ?_
  refine r_aload_n (pc := 2) C 1 dJ7_fill_53178_2 rfl ?_
  refine r_alen (pc := 3) (k := k0) (n := (ln k0)) C (bdA h0) (ceA h0 _) dJ7_fill_53178_3 ?_
  refine r_topi (fun v1 ev1 => ?_)
  replace h := h v1 ev1
  refine r_istore_n (pc := 4) (lv2 := [(3, .int v1), (2, .int 0), (0, .ref (ad X k0)), (1, .int x1)]) C dJ7_fill_53178_4 (by decide) rfl ?_
  obtain ⟨n2, h⟩ := h
  refine r_sub (lv2 := [(0, .ref (ad X k0)), (1, .int x1), (2, .int 0), (3, .int v1)]) [2, 3, 1, 0] rfl ?_
  exact hL5  _ _ _ _ _ h
theorem yd_X6_become : yX6_become.cls ≠ "java/lang/invoke/MethodHandle" ∧ yX6_become.cls ≠ "java/lang/invoke/VarHandle" ∧ (parseMethodDescriptor yX6_become.desc).map (fun d => d.parameters.length) = some 1 := by decide +kernel
def w_X6_become (k0 : Nat) (k1 : Nat) (M : Mem)  (Q : Mem → Prop) : Prop :=
  ∀ v1 : Int32, v1 = (M k1 0) → (∀ M2 : Mem, M2 = ms M k0 0 v1 → (∀ v3 : Int32, v3 = (M2 k1 1) → (∀ M4 : Mem, M4 = ms M2 k0 1 v3 → (∀ v5 : Int32, v5 = (M4 k1 2) → (∀ M6 : Mem, M6 = ms M4 k0 2 v5 → (∀ v7 : Int32, v7 = (M6 k1 3) → (∀ M8 : Mem, M8 = ms M6 k0 3 v7 → (∀ v9 : Int32, v9 = (M8 k1 4) → (∀ M10 : Mem, M10 = ms M8 k0 4 v9 → (∀ v11 : Int32, v11 = (M10 k1 5) → (∀ M12 : Mem, M12 = ms M10 k0 5 v11 → (∀ M13 : Mem, M13 = mcp M12 (k1 + 1) (k0 + 1) 0 0 6 → (∀ M14 : Mem, M14 = mcp M13 (k1 + 2) (k0 + 2) 0 0 6 → (∀ M15 : Mem, M15 = mcp M14 (k1 + 3) (k0 + 3) 0 0 6 → (∀ M16 : Mem, M16 = mcp M15 (k1 + 4) (k0 + 4) 0 0 6 → (∀ M17 : Mem, M17 = mcp M16 (k1 + 5) (k0 + 5) 0 0 6 → (∀ M18 : Mem, M18 = mcp M17 (k1 + 6) (k0 + 6) 0 0 6 → (∀ M19 : Mem, M19 = mcp M18 (k1 + 7) (k0 + 7) 0 0 6 → (∀ M20 : Mem, M20 = mcp M19 (k1 + 8) (k0 + 8) 0 0 6 → (∀ M21 : Mem, M21 = mcp M20 (k1 + 9) (k0 + 9) 0 0 36 → (∀ M22 : Mem, M22 = mcp M21 (k1 + 10) (k0 + 10) 0 0 36 → (Q M22))))))))))))))))))))))
abbrev rm_X6_become : Room := { frames := 3, cells := 0, slots := 0, locals := 60 }
set_option maxHeartbeats 4000000 in
set_option maxRecDepth 100000 in
theorem c_X6_become (X : Cx) (k0 : Nat) (h0 : kd k0 = 6) (k1 : Nat) (h1 : kd k1 = 6) (M : Mem)  (Q : Mem → Prop) (h : w_X6_become k0 k1 M  Q) : Ct yX6_become cX6_become 2 none rm_X6_become X M [.ref (ad X k0), .ref (ad X k1)] (Qv X Q) := by
  refine ct_of (own := RX6) (lv := [(0, .ref (ad X k0)), (1, .ref (ad X k1))]) rfl (by decide) (Nat.le_of_ble_eq_true rfl) rfl ?_
  intro K C
  unfold w_X6_become at h
  refine r_aload_n (pc := 0) C 0 dX6_become_0 rfl ?_
  refine r_aload_n (pc := 1) C 1 dX6_become_1 rfl ?_
  refine r_get (pc := 2) (k := k1) (j := 0) (Cn := RX6) (T := TX6) (N := 16) C (bdT h1) (ceT h1 _) rfl iaX6 (by decide) aw272 rfl rfl dX6_become_2 ?_
  refine r_topi (fun v1 ev1 => ?_)
  replace h := h v1 ev1
  refine r_put (pc := 5) (k := k0) (j := 0) (Cn := RX6) (T := TX6) (N := 16) (host := "") C (bdT h0) (ceT h0 _) rfl iaX6 (by decide) (ceT h0 _) tyX6_ok nmX6 aw272 rfl rfl (tyX6_ok 0 (by decide)) (Nat.le_of_ble_eq_true rfl) dX6_become_5 ?_
  refine r_topM (fun M2 eM2 => ?_)
  replace h := h M2 eM2
  refine r_aload_n (pc := 8) C 0 dX6_become_8 rfl ?_
  refine r_aload_n (pc := 9) C 1 dX6_become_9 rfl ?_
  refine r_get (pc := 10) (k := k1) (j := 1) (Cn := RX6) (T := TX6) (N := 16) C (bdT h1) (ceT h1 _) rfl iaX6 (by decide) aw273 rfl rfl dX6_become_10 ?_
  refine r_topi (fun v3 ev3 => ?_)
  replace h := h v3 ev3
  refine r_put (pc := 13) (k := k0) (j := 1) (Cn := RX6) (T := TX6) (N := 16) (host := "") C (bdT h0) (ceT h0 _) rfl iaX6 (by decide) (ceT h0 _) tyX6_ok nmX6 aw273 rfl rfl (tyX6_ok 1 (by decide)) (Nat.le_of_ble_eq_true rfl) dX6_become_13 ?_
  refine r_topM (fun M4 eM4 => ?_)
  replace h := h M4 eM4
  refine r_aload_n (pc := 16) C 0 dX6_become_16 rfl ?_
  refine r_aload_n (pc := 17) C 1 dX6_become_17 rfl ?_
  refine r_get (pc := 18) (k := k1) (j := 2) (Cn := RX6) (T := TX6) (N := 16) C (bdT h1) (ceT h1 _) rfl iaX6 (by decide) aw274 rfl rfl dX6_become_18 ?_
  refine r_topi (fun v5 ev5 => ?_)
  replace h := h v5 ev5
  refine r_put (pc := 21) (k := k0) (j := 2) (Cn := RX6) (T := TX6) (N := 16) (host := "") C (bdT h0) (ceT h0 _) rfl iaX6 (by decide) (ceT h0 _) tyX6_ok nmX6 aw274 rfl rfl (tyX6_ok 2 (by decide)) (Nat.le_of_ble_eq_true rfl) dX6_become_21 ?_
  refine r_topM (fun M6 eM6 => ?_)
  replace h := h M6 eM6
  refine r_aload_n (pc := 24) C 0 dX6_become_24 rfl ?_
  refine r_aload_n (pc := 25) C 1 dX6_become_25 rfl ?_
  refine r_get (pc := 26) (k := k1) (j := 3) (Cn := RX6) (T := TX6) (N := 16) C (bdT h1) (ceT h1 _) rfl iaX6 (by decide) aw275 rfl rfl dX6_become_26 ?_
  refine r_topi (fun v7 ev7 => ?_)
  replace h := h v7 ev7
  refine r_put (pc := 29) (k := k0) (j := 3) (Cn := RX6) (T := TX6) (N := 16) (host := "") C (bdT h0) (ceT h0 _) rfl iaX6 (by decide) (ceT h0 _) tyX6_ok nmX6 aw275 rfl rfl (tyX6_ok 3 (by decide)) (Nat.le_of_ble_eq_true rfl) dX6_become_29 ?_
  refine r_topM (fun M8 eM8 => ?_)
  replace h := h M8 eM8
  refine r_aload_n (pc := 32) C 0 dX6_become_32 rfl ?_
  refine r_aload_n (pc := 33) C 1 dX6_become_33 rfl ?_
  refine r_get (pc := 34) (k := k1) (j := 4) (Cn := RX6) (T := TX6) (N := 16) C (bdT h1) (ceT h1 _) rfl iaX6 (by decide) aw276 rfl rfl dX6_become_34 ?_
  refine r_topi (fun v9 ev9 => ?_)
  replace h := h v9 ev9
  refine r_put (pc := 37) (k := k0) (j := 4) (Cn := RX6) (T := TX6) (N := 16) (host := "") C (bdT h0) (ceT h0 _) rfl iaX6 (by decide) (ceT h0 _) tyX6_ok nmX6 aw276 rfl rfl (tyX6_ok 4 (by decide)) (Nat.le_of_ble_eq_true rfl) dX6_become_37 ?_
  refine r_topM (fun M10 eM10 => ?_)
  replace h := h M10 eM10
  refine r_aload_n (pc := 40) C 0 dX6_become_40 rfl ?_
  refine r_aload_n (pc := 41) C 1 dX6_become_41 rfl ?_
  refine r_get (pc := 42) (k := k1) (j := 5) (Cn := RX6) (T := TX6) (N := 16) C (bdT h1) (ceT h1 _) rfl iaX6 (by decide) aw277 rfl rfl dX6_become_42 ?_
  refine r_topi (fun v11 ev11 => ?_)
  replace h := h v11 ev11
  refine r_put (pc := 45) (k := k0) (j := 5) (Cn := RX6) (T := TX6) (N := 16) (host := "") C (bdT h0) (ceT h0 _) rfl iaX6 (by decide) (ceT h0 _) tyX6_ok nmX6 aw277 rfl rfl (tyX6_ok 5 (by decide)) (Nat.le_of_ble_eq_true rfl) dX6_become_45 ?_
  refine r_topM (fun M12 eM12 => ?_)
  replace h := h M12 eM12
  refine r_aload_n (pc := 48) C 1 dX6_become_48 rfl ?_
  refine r_get (pc := 49) (k := k1) (j := 6) (Cn := RX6) (T := TX6) (N := 16) C (bdT h1) (ceT h1 _) rfl iaX6 (by decide) aw66 rfl rfl dX6_become_49 ?_
  refine r_iconst (pc := 52) (v := 0) C dX6_become_52 (by decide) ?_
  refine r_aload_n (pc := 53) C 0 dX6_become_53 rfl ?_
  refine r_get (pc := 54) (k := k0) (j := 6) (Cn := RX6) (T := TX6) (N := 16) C (bdT h0) (ceT h0 _) rfl iaX6 (by decide) aw66 rfl rfl dX6_become_54 ?_
  refine r_iconst (pc := 57) (v := 0) C dX6_become_57 (by decide) ?_
  refine r_bipush (pc := 58) (v := 6) C dX6_become_58 (by decide) ?_
  refine q_copy (a := 0) (b := 0) (n2 := 6) (by decide) (by decide) (by decide) (pc := 60) (k0 := (k1 + 1)) (k1 := (k0 + 1)) (n0 := 6) (n1 := 6) C (bdT1 h1) (bdT1 h0) (ceT1 h1 _) (ceT1 h0) aw312 (by decide) (Nat.le_of_ble_eq_true rfl) (Nat.le_of_ble_eq_true rfl) dX6_become_60 ?_
  refine r_topM (fun M13 eM13 => ?_)
  replace h := h M13 eM13
  refine r_aload_n (pc := 63) C 1 dX6_become_63 rfl ?_
  refine r_get (pc := 64) (k := k1) (j := 7) (Cn := RX6) (T := TX6) (N := 16) C (bdT h1) (ceT h1 _) rfl iaX6 (by decide) aw67 rfl rfl dX6_become_64 ?_
  refine r_iconst (pc := 67) (v := 0) C dX6_become_67 (by decide) ?_
  refine r_aload_n (pc := 68) C 0 dX6_become_68 rfl ?_
  refine r_get (pc := 69) (k := k0) (j := 7) (Cn := RX6) (T := TX6) (N := 16) C (bdT h0) (ceT h0 _) rfl iaX6 (by decide) aw67 rfl rfl dX6_become_69 ?_
  refine r_iconst (pc := 72) (v := 0) C dX6_become_72 (by decide) ?_
  refine r_bipush (pc := 73) (v := 6) C dX6_become_73 (by decide) ?_
  refine q_copy (a := 0) (b := 0) (n2 := 6) (by decide) (by decide) (by decide) (pc := 75) (k0 := (k1 + 2)) (k1 := (k0 + 2)) (n0 := 6) (n1 := 6) C (bdT2 h1) (bdT2 h0) (ceT2 h1 _) (ceT2 h0) aw312 (by decide) (Nat.le_of_ble_eq_true rfl) (Nat.le_of_ble_eq_true rfl) dX6_become_75 ?_
  refine r_topM (fun M14 eM14 => ?_)
  replace h := h M14 eM14
  refine r_aload_n (pc := 78) C 1 dX6_become_78 rfl ?_
  refine r_get (pc := 79) (k := k1) (j := 8) (Cn := RX6) (T := TX6) (N := 16) C (bdT h1) (ceT h1 _) rfl iaX6 (by decide) aw68 rfl rfl dX6_become_79 ?_
  refine r_iconst (pc := 82) (v := 0) C dX6_become_82 (by decide) ?_
  refine r_aload_n (pc := 83) C 0 dX6_become_83 rfl ?_
  refine r_get (pc := 84) (k := k0) (j := 8) (Cn := RX6) (T := TX6) (N := 16) C (bdT h0) (ceT h0 _) rfl iaX6 (by decide) aw68 rfl rfl dX6_become_84 ?_
  refine r_iconst (pc := 87) (v := 0) C dX6_become_87 (by decide) ?_
  refine r_bipush (pc := 88) (v := 6) C dX6_become_88 (by decide) ?_
  refine q_copy (a := 0) (b := 0) (n2 := 6) (by decide) (by decide) (by decide) (pc := 90) (k0 := (k1 + 3)) (k1 := (k0 + 3)) (n0 := 6) (n1 := 6) C (bdT3 h1) (bdT3 h0) (ceT3 h1 _) (ceT3 h0) aw312 (by decide) (Nat.le_of_ble_eq_true rfl) (Nat.le_of_ble_eq_true rfl) dX6_become_90 ?_
  refine r_topM (fun M15 eM15 => ?_)
  replace h := h M15 eM15
  refine r_aload_n (pc := 93) C 1 dX6_become_93 rfl ?_
  refine r_get (pc := 94) (k := k1) (j := 9) (Cn := RX6) (T := TX6) (N := 16) C (bdT h1) (ceT h1 _) rfl iaX6 (by decide) aw69 rfl rfl dX6_become_94 ?_
  refine r_iconst (pc := 97) (v := 0) C dX6_become_97 (by decide) ?_
  refine r_aload_n (pc := 98) C 0 dX6_become_98 rfl ?_
  refine r_get (pc := 99) (k := k0) (j := 9) (Cn := RX6) (T := TX6) (N := 16) C (bdT h0) (ceT h0 _) rfl iaX6 (by decide) aw69 rfl rfl dX6_become_99 ?_
  refine r_iconst (pc := 102) (v := 0) C dX6_become_102 (by decide) ?_
  refine r_bipush (pc := 103) (v := 6) C dX6_become_103 (by decide) ?_
  refine q_copy (a := 0) (b := 0) (n2 := 6) (by decide) (by decide) (by decide) (pc := 105) (k0 := (k1 + 4)) (k1 := (k0 + 4)) (n0 := 6) (n1 := 6) C (bdT4 h1) (bdT4 h0) (ceT4 h1 _) (ceT4 h0) aw312 (by decide) (Nat.le_of_ble_eq_true rfl) (Nat.le_of_ble_eq_true rfl) dX6_become_105 ?_
  refine r_topM (fun M16 eM16 => ?_)
  replace h := h M16 eM16
  refine r_aload_n (pc := 108) C 1 dX6_become_108 rfl ?_
  refine r_get (pc := 109) (k := k1) (j := 10) (Cn := RX6) (T := TX6) (N := 16) C (bdT h1) (ceT h1 _) rfl iaX6 (by decide) aw70 rfl rfl dX6_become_109 ?_
  refine r_iconst (pc := 112) (v := 0) C dX6_become_112 (by decide) ?_
  refine r_aload_n (pc := 113) C 0 dX6_become_113 rfl ?_
  refine r_get (pc := 114) (k := k0) (j := 10) (Cn := RX6) (T := TX6) (N := 16) C (bdT h0) (ceT h0 _) rfl iaX6 (by decide) aw70 rfl rfl dX6_become_114 ?_
  refine r_iconst (pc := 117) (v := 0) C dX6_become_117 (by decide) ?_
  refine r_bipush (pc := 118) (v := 6) C dX6_become_118 (by decide) ?_
  refine q_copy (a := 0) (b := 0) (n2 := 6) (by decide) (by decide) (by decide) (pc := 120) (k0 := (k1 + 5)) (k1 := (k0 + 5)) (n0 := 6) (n1 := 6) C (bdT5 h1) (bdT5 h0) (ceT5 h1 _) (ceT5 h0) aw312 (by decide) (Nat.le_of_ble_eq_true rfl) (Nat.le_of_ble_eq_true rfl) dX6_become_120 ?_
  refine r_topM (fun M17 eM17 => ?_)
  replace h := h M17 eM17
  refine r_aload_n (pc := 123) C 1 dX6_become_123 rfl ?_
  refine r_get (pc := 124) (k := k1) (j := 11) (Cn := RX6) (T := TX6) (N := 16) C (bdT h1) (ceT h1 _) rfl iaX6 (by decide) aw71 rfl rfl dX6_become_124 ?_
  refine r_iconst (pc := 127) (v := 0) C dX6_become_127 (by decide) ?_
  refine r_aload_n (pc := 128) C 0 dX6_become_128 rfl ?_
  refine r_get (pc := 129) (k := k0) (j := 11) (Cn := RX6) (T := TX6) (N := 16) C (bdT h0) (ceT h0 _) rfl iaX6 (by decide) aw71 rfl rfl dX6_become_129 ?_
  refine r_iconst (pc := 132) (v := 0) C dX6_become_132 (by decide) ?_
  refine r_bipush (pc := 133) (v := 6) C dX6_become_133 (by decide) ?_
  refine q_copy (a := 0) (b := 0) (n2 := 6) (by decide) (by decide) (by decide) (pc := 135) (k0 := (k1 + 6)) (k1 := (k0 + 6)) (n0 := 6) (n1 := 6) C (bdT6 h1) (bdT6 h0) (ceT6 h1 _) (ceT6 h0) aw312 (by decide) (Nat.le_of_ble_eq_true rfl) (Nat.le_of_ble_eq_true rfl) dX6_become_135 ?_
  refine r_topM (fun M18 eM18 => ?_)
  replace h := h M18 eM18
  refine r_aload_n (pc := 138) C 1 dX6_become_138 rfl ?_
  refine r_get (pc := 139) (k := k1) (j := 12) (Cn := RX6) (T := TX6) (N := 16) C (bdT h1) (ceT h1 _) rfl iaX6 (by decide) aw72 rfl rfl dX6_become_139 ?_
  refine r_iconst (pc := 142) (v := 0) C dX6_become_142 (by decide) ?_
  refine r_aload_n (pc := 143) C 0 dX6_become_143 rfl ?_
  refine r_get (pc := 144) (k := k0) (j := 12) (Cn := RX6) (T := TX6) (N := 16) C (bdT h0) (ceT h0 _) rfl iaX6 (by decide) aw72 rfl rfl dX6_become_144 ?_
  refine r_iconst (pc := 147) (v := 0) C dX6_become_147 (by decide) ?_
  refine r_bipush (pc := 148) (v := 6) C dX6_become_148 (by decide) ?_
  refine q_copy (a := 0) (b := 0) (n2 := 6) (by decide) (by decide) (by decide) (pc := 150) (k0 := (k1 + 7)) (k1 := (k0 + 7)) (n0 := 6) (n1 := 6) C (bdT7 h1) (bdT7 h0) (ceT7 h1 _) (ceT7 h0) aw312 (by decide) (Nat.le_of_ble_eq_true rfl) (Nat.le_of_ble_eq_true rfl) dX6_become_150 ?_
  refine r_topM (fun M19 eM19 => ?_)
  replace h := h M19 eM19
  refine r_aload_n (pc := 153) C 1 dX6_become_153 rfl ?_
  refine r_get (pc := 154) (k := k1) (j := 13) (Cn := RX6) (T := TX6) (N := 16) C (bdT h1) (ceT h1 _) rfl iaX6 (by decide) aw73 rfl rfl dX6_become_154 ?_
  refine r_iconst (pc := 157) (v := 0) C dX6_become_157 (by decide) ?_
  refine r_aload_n (pc := 158) C 0 dX6_become_158 rfl ?_
  refine r_get (pc := 159) (k := k0) (j := 13) (Cn := RX6) (T := TX6) (N := 16) C (bdT h0) (ceT h0 _) rfl iaX6 (by decide) aw73 rfl rfl dX6_become_159 ?_
  refine r_iconst (pc := 162) (v := 0) C dX6_become_162 (by decide) ?_
  refine r_bipush (pc := 163) (v := 6) C dX6_become_163 (by decide) ?_
  refine q_copy (a := 0) (b := 0) (n2 := 6) (by decide) (by decide) (by decide) (pc := 165) (k0 := (k1 + 8)) (k1 := (k0 + 8)) (n0 := 6) (n1 := 6) C (bdT8 h1) (bdT8 h0) (ceT8 h1 _) (ceT8 h0) aw312 (by decide) (Nat.le_of_ble_eq_true rfl) (Nat.le_of_ble_eq_true rfl) dX6_become_165 ?_
  refine r_topM (fun M20 eM20 => ?_)
  replace h := h M20 eM20
  refine r_aload_n (pc := 168) C 1 dX6_become_168 rfl ?_
  refine r_get (pc := 169) (k := k1) (j := 14) (Cn := RX6) (T := TX6) (N := 16) C (bdT h1) (ceT h1 _) rfl iaX6 (by decide) aw74 rfl rfl dX6_become_169 ?_
  refine r_iconst (pc := 172) (v := 0) C dX6_become_172 (by decide) ?_
  refine r_aload_n (pc := 173) C 0 dX6_become_173 rfl ?_
  refine r_get (pc := 174) (k := k0) (j := 14) (Cn := RX6) (T := TX6) (N := 16) C (bdT h0) (ceT h0 _) rfl iaX6 (by decide) aw74 rfl rfl dX6_become_174 ?_
  refine r_iconst (pc := 177) (v := 0) C dX6_become_177 (by decide) ?_
  refine r_bipush (pc := 178) (v := 36) C dX6_become_178 (by decide) ?_
  refine q_copy (a := 0) (b := 0) (n2 := 36) (by decide) (by decide) (by decide) (pc := 180) (k0 := (k1 + 9)) (k1 := (k0 + 9)) (n0 := 36) (n1 := 36) C (bdT9 h1) (bdT9 h0) (ceT9 h1 _) (ceT9 h0) aw312 (by decide) (Nat.le_of_ble_eq_true rfl) (Nat.le_of_ble_eq_true rfl) dX6_become_180 ?_
  refine r_topM (fun M21 eM21 => ?_)
  replace h := h M21 eM21
  refine r_aload_n (pc := 183) C 1 dX6_become_183 rfl ?_
  refine r_get (pc := 184) (k := k1) (j := 15) (Cn := RX6) (T := TX6) (N := 16) C (bdT h1) (ceT h1 _) rfl iaX6 (by decide) aw75 rfl rfl dX6_become_184 ?_
  refine r_iconst (pc := 187) (v := 0) C dX6_become_187 (by decide) ?_
  refine r_aload_n (pc := 188) C 0 dX6_become_188 rfl ?_
  refine r_get (pc := 189) (k := k0) (j := 15) (Cn := RX6) (T := TX6) (N := 16) C (bdT h0) (ceT h0 _) rfl iaX6 (by decide) aw75 rfl rfl dX6_become_189 ?_
  refine r_iconst (pc := 192) (v := 0) C dX6_become_192 (by decide) ?_
  refine r_bipush (pc := 193) (v := 36) C dX6_become_193 (by decide) ?_
  refine q_copy (a := 0) (b := 0) (n2 := 36) (by decide) (by decide) (by decide) (pc := 195) (k0 := (k1 + 10)) (k1 := (k0 + 10)) (n0 := 36) (n1 := 36) C (bdT10 h1) (bdT10 h0) (ceT10 h1 _) (ceT10 h0) aw312 (by decide) (Nat.le_of_ble_eq_true rfl) (Nat.le_of_ble_eq_true rfl) dX6_become_195 ?_
  refine r_topM (fun M22 eM22 => ?_)
  replace h := h M22 eM22
  exact r_vret (pc := 198) C dX6_become_198 h
theorem yd_X6_isAtDoor : yX6_isAtDoor.cls ≠ "java/lang/invoke/MethodHandle" ∧ yX6_isAtDoor.cls ≠ "java/lang/invoke/VarHandle" ∧ (parseMethodDescriptor yX6_isAtDoor.desc).map (fun d => d.parameters.length) = some 2 := by decide +kernel
def w_X6_isAtDoor (k0 : Nat) (M : Mem) (x1 : Int32) (x2 : Int32) (Q : Int32 → Mem → Prop) : Prop :=
  vp_in x2 6 ∧ (vp_in x1 6 ∧ ((((M (k0 + 1) (Int32.toNatClampNeg x2)) = (M (k0 + 4) (Int32.toNatClampNeg x1))) → (Q 1 M)) ∧ ((¬ (M (k0 + 1) (Int32.toNatClampNeg x2)) = (M (k0 + 4) (Int32.toNatClampNeg x1))) → (vp_in x2 6 ∧ (vp_in x1 6 ∧ (((¬ (M (k0 + 2) (Int32.toNatClampNeg x2)) = (M (k0 + 4) (Int32.toNatClampNeg x1))) → (Q 0 M)) ∧ (((M (k0 + 2) (Int32.toNatClampNeg x2)) = (M (k0 + 4) (Int32.toNatClampNeg x1))) → (Q 1 M))))))))
abbrev rm_X6_isAtDoor : Room := { frames := 3, cells := 0, slots := 0, locals := 60 }
set_option maxHeartbeats 4000000 in
set_option maxRecDepth 100000 in
theorem c_X6_isAtDoor (X : Cx) (k0 : Nat) (h0 : kd k0 = 6) (M : Mem) (x1 : Int32) (x2 : Int32) (Q : Int32 → Mem → Prop) (h : w_X6_isAtDoor k0 M x1 x2 Q) : Ct yX6_isAtDoor cX6_isAtDoor 3 (some .boolean) rm_X6_isAtDoor X M [.ref (ad X k0), .int x1, .int x2] (Qi X Q) := by
  refine ct_of (own := RX6) (lv := [(0, .ref (ad X k0)), (1, .int x1), (2, .int x2)]) rfl (by decide) (Nat.le_of_ble_eq_true rfl) rfl ?_
  intro K C
  unfold w_X6_isAtDoor at h
  refine r_aload_n (pc := 0) C 0 dX6_isAtDoor_0 rfl ?_
  refine r_get (pc := 1) (k := k0) (j := 6) (Cn := RX6) (T := TX6) (N := 16) C (bdT h0) (ceT h0 _) rfl iaX6 (by decide) aw66 rfl rfl dX6_isAtDoor_1 ?_
  refine r_iload_n (pc := 4) C 2 dX6_isAtDoor_4 rfl ?_
  obtain ⟨g1, h⟩ := h
  refine q_iald (pc := 5) (k := (k0 + 1)) (n := 6) (j := (Int32.toNatClampNeg x2)) C (bdT1 h0) (ceT1 h0 _) g1 rfl dX6_isAtDoor_5 ?_
  refine r_aload_n (pc := 6) C 0 dX6_isAtDoor_6 rfl ?_
  refine r_get (pc := 7) (k := k0) (j := 9) (Cn := RX6) (T := TX6) (N := 16) C (bdT h0) (ceT h0 _) rfl iaX6 (by decide) aw69 rfl rfl dX6_isAtDoor_7 ?_
  refine r_iload_n (pc := 10) C 1 dX6_isAtDoor_10 rfl ?_
  obtain ⟨g2, h⟩ := h
  refine q_iald (pc := 11) (k := (k0 + 4)) (n := 6) (j := (Int32.toNatClampNeg x1)) C (bdT4 h0) (ceT4 h0 _) g2 rfl dX6_isAtDoor_11 ?_
  refine r_icmp_eq (pc := 12) (tgt := 30) C dX6_isAtDoor_12 (by decide) (fun c3 => ?_) (fun c3 => ?_)
  · have h := h.1 c3
    refine r_iconst (pc := 30) (v := 1) C dX6_isAtDoor_30 (by decide) ?_
    refine r_goto (pc := 31) (tgt := 35) C dX6_isAtDoor_31 (by decide) ?_
    exact r_zret (pc := 35) C dX6_isAtDoor_35 (Or.inr rfl) h
  · have h := h.2 c3
    refine r_aload_n (pc := 15) C 0 dX6_isAtDoor_15 rfl ?_
    refine r_get (pc := 16) (k := k0) (j := 7) (Cn := RX6) (T := TX6) (N := 16) C (bdT h0) (ceT h0 _) rfl iaX6 (by decide) aw67 rfl rfl dX6_isAtDoor_16 ?_
    refine r_iload_n (pc := 19) C 2 dX6_isAtDoor_19 rfl ?_
    obtain ⟨g4, h⟩ := h
    refine q_iald (pc := 20) (k := (k0 + 2)) (n := 6) (j := (Int32.toNatClampNeg x2)) C (bdT2 h0) (ceT2 h0 _) g4 rfl dX6_isAtDoor_20 ?_
    refine r_aload_n (pc := 21) C 0 dX6_isAtDoor_21 rfl ?_
    refine r_get (pc := 22) (k := k0) (j := 9) (Cn := RX6) (T := TX6) (N := 16) C (bdT h0) (ceT h0 _) rfl iaX6 (by decide) aw69 rfl rfl dX6_isAtDoor_22 ?_
    refine r_iload_n (pc := 25) C 1 dX6_isAtDoor_25 rfl ?_
    obtain ⟨g5, h⟩ := h
    refine q_iald (pc := 26) (k := (k0 + 4)) (n := 6) (j := (Int32.toNatClampNeg x1)) C (bdT4 h0) (ceT4 h0 _) g5 rfl dX6_isAtDoor_26 ?_
    refine r_icmp_ne (pc := 27) (tgt := 34) C dX6_isAtDoor_27 (by decide) (fun c6 => ?_) (fun c6 => ?_)
    · have h := h.1 c6
      refine r_iconst (pc := 34) (v := 0) C dX6_isAtDoor_34 (by decide) ?_
      exact r_zret (pc := 35) C dX6_isAtDoor_35 (Or.inl rfl) h
    · have h := h.2 c6
      refine r_iconst (pc := 30) (v := 1) C dX6_isAtDoor_30 (by decide) ?_
      refine r_goto (pc := 31) (tgt := 35) C dX6_isAtDoor_31 (by decide) ?_
      exact r_zret (pc := 35) C dX6_isAtDoor_35 (Or.inr rfl) h
theorem yd_X6_mark : yX6_mark.cls ≠ "java/lang/invoke/MethodHandle" ∧ yX6_mark.cls ≠ "java/lang/invoke/VarHandle" ∧ (parseMethodDescriptor yX6_mark.desc).map (fun d => d.parameters.length) = some 2 := by decide +kernel
def w_X6_mark (k0 : Nat) (M : Mem) (x1 : Int32) (x2 : Int32) (Q : Mem → Prop) : Prop :=
  w_X6_cellOf  M x1 x2 (fun r2 M1 => vp_in r2 36 ∧ (∀ v4 : Int32, v4 = (if 99 < ((M1 (k0 + 9) (Int32.toNatClampNeg r2)) + 1) then 99 else ((M1 (k0 + 9) (Int32.toNatClampNeg r2)) + 1)) → (vp_in r2 36 ∧ (∀ M6 : Mem, M6 = ms M1 (k0 + 9) (Int32.toNatClampNeg r2) v4 → (∀ v7 : Int32, v7 = (M6 k0 5) → (vp_in r2 36 ∧ (∀ M9 : Mem, M9 = ms M6 (k0 + 10) (Int32.toNatClampNeg r2) v7 → (Q M9))))))))
abbrev rm_X6_mark : Room := { frames := 6, cells := 0, slots := 0, locals := 120 }
set_option maxHeartbeats 4000000 in
set_option maxRecDepth 100000 in
theorem c_X6_mark (X : Cx) (k0 : Nat) (h0 : kd k0 = 6) (M : Mem) (x1 : Int32) (x2 : Int32) (Q : Mem → Prop) (h : w_X6_mark k0 M x1 x2 Q) : Ct yX6_mark cX6_mark 4 none rm_X6_mark X M [.ref (ad X k0), .int x1, .int x2] (Qv X Q) := by
  refine ct_of (own := RX6) (lv := [(0, .ref (ad X k0)), (1, .int x1), (2, .int x2)]) rfl (by decide) (Nat.le_of_ble_eq_true rfl) rfl ?_
  intro K C
  unfold w_X6_mark at h
  refine r_iload_n (pc := 0) C 1 dX6_mark_0 rfl ?_
  refine r_iload_n (pc := 1) C 2 dX6_mark_1 rfl ?_
  have hM := c_X6_cellOf X  M x1 x2 _ h
  refine q_s0 (s1 := List.reverse [.int x1, .int x2] ++ []) rfl ?_
  refine r_callSi (pc := 2) (As := [.int x1, .int x2]) (st := []) C 2 hM aw286 aw287 aw288 aw28 yd_X6_cellOf ⟨rfl, rfl⟩ ⟨Nat.le_of_ble_eq_true rfl, Nat.le_of_ble_eq_true rfl⟩ rfl (Nat.le_of_ble_eq_true rfl) dX6_mark_2 (fun r2 M1 h => ?_)
  refine r_istore_n (pc := 5) (lv2 := [(3, .int r2), (0, .ref (ad X k0)), (1, .int x1), (2, .int x2)]) C dX6_mark_5 (by decide) rfl ?_
  refine r_aload_n (pc := 6) C 1 dX6_mark_6 rfl ?_
  refine r_get (pc := 7) (k := k0) (j := 14) (Cn := RX6) (T := TX6) (N := 16) C (bdT h0) (ceT h0 _) rfl iaX6 (by decide) aw74 rfl rfl dX6_mark_7 ?_
  refine r_iload_n (pc := 10) C 0 dX6_mark_10 rfl ?_
  refine r_aload_n (pc := 11) C 1 dX6_mark_11 rfl ?_
  refine r_get (pc := 12) (k := k0) (j := 14) (Cn := RX6) (T := TX6) (N := 16) C (bdT h0) (ceT h0 _) rfl iaX6 (by decide) aw74 rfl rfl dX6_mark_12 ?_
  refine r_iload_n (pc := 15) C 0 dX6_mark_15 rfl ?_
  obtain ⟨g3, h⟩ := h
  refine q_iald (pc := 16) (k := (k0 + 9)) (n := 36) (j := (Int32.toNatClampNeg r2)) C (bdT9 h0) (ceT9 h0 _) g3 rfl dX6_mark_16 ?_
  refine r_iconst (pc := 17) (v := 1) C dX6_mark_17 (by decide) ?_
  refine r_iadd (pc := 18) C dX6_mark_18 ?_
  refine r_bipush (pc := 19) (v := 99) C dX6_mark_19 (by decide) ?_
  refine r_min (pc := 21) C aw477 (Nat.le_of_ble_eq_true rfl) (Nat.le_of_ble_eq_true rfl) dX6_mark_21 ?_
  refine r_topi (fun v4 ev4 => ?_)
  replace h := h v4 ev4
  obtain ⟨g5, h⟩ := h
  refine q_iast (pc := 24) (k := (k0 + 9)) (n := 36) (j := (Int32.toNatClampNeg r2)) C (bdT9 h0) (ceT9 h0) g5 rfl dX6_mark_24 ?_
  refine r_topM (fun M6 eM6 => ?_)
  replace h := h M6 eM6
  refine r_aload_n (pc := 25) C 1 dX6_mark_25 rfl ?_
  refine r_get (pc := 26) (k := k0) (j := 15) (Cn := RX6) (T := TX6) (N := 16) C (bdT h0) (ceT h0 _) rfl iaX6 (by decide) aw75 rfl rfl dX6_mark_26 ?_
  refine r_iload_n (pc := 29) C 0 dX6_mark_29 rfl ?_
  refine r_aload_n (pc := 30) C 1 dX6_mark_30 rfl ?_
  refine r_get (pc := 31) (k := k0) (j := 5) (Cn := RX6) (T := TX6) (N := 16) C (bdT h0) (ceT h0 _) rfl iaX6 (by decide) aw277 rfl rfl dX6_mark_31 ?_
  refine r_topi (fun v7 ev7 => ?_)
  replace h := h v7 ev7
  obtain ⟨g8, h⟩ := h
  refine q_iast (pc := 34) (k := (k0 + 10)) (n := 36) (j := (Int32.toNatClampNeg r2)) C (bdT10 h0) (ceT10 h0) g8 rfl dX6_mark_34 ?_
  refine r_topM (fun M9 eM9 => ?_)
  replace h := h M9 eM9
  exact r_vret (pc := 35) C dX6_mark_35 h
theorem yd_X6_pass : yX6_pass.cls ≠ "java/lang/invoke/MethodHandle" ∧ yX6_pass.cls ≠ "java/lang/invoke/VarHandle" ∧ (parseMethodDescriptor yX6_pass.desc).map (fun d => d.parameters.length) = some 2 := by decide +kernel
def w_X6_pass (k0 : Nat) (M : Mem) (x1 : Int32) (x2 : Int32) (Q : Mem → Prop) : Prop :=
  w_X6_mark k0 M x1 x2 (fun M1 => w_X6_cross k0 M1 x1 x2 (fun M3 => Q M3))
abbrev rm_X6_pass : Room := { frames := 9, cells := 0, slots := 0, locals := 180 }
set_option maxHeartbeats 4000000 in
set_option maxRecDepth 100000 in
theorem c_X6_pass (X : Cx) (k0 : Nat) (h0 : kd k0 = 6) (M : Mem) (x1 : Int32) (x2 : Int32) (Q : Mem → Prop) (h : w_X6_pass k0 M x1 x2 Q) : Ct yX6_pass cX6_pass 3 none rm_X6_pass X M [.ref (ad X k0), .int x1, .int x2] (Qv X Q) := by
  refine ct_of (own := RX6) (lv := [(0, .ref (ad X k0)), (1, .int x1), (2, .int x2)]) rfl (by decide) (Nat.le_of_ble_eq_true rfl) rfl ?_
  intro K C
  unfold w_X6_pass at h
  refine r_aload_n (pc := 0) C 0 dX6_pass_0 rfl ?_
  refine r_iload_n (pc := 1) C 1 dX6_pass_1 rfl ?_
  refine r_iload_n (pc := 2) C 2 dX6_pass_2 rfl ?_
  have hM := c_X6_mark X k0 h0 M x1 x2 _ h
  refine q_s0 (s1 := List.reverse [.int x1, .int x2] ++ .ref (ad X k0) :: []) rfl ?_
  refine r_callVv (pc := 3) (k := k0) (As := [.int x1, .int x2]) (st := []) C 2 (bdT h0) (ceT h0 _) rfl aw474 aw475 hM aw473 aw476 aw28 yd_X6_mark ⟨rfl, rfl⟩ ⟨Nat.le_of_ble_eq_true rfl, Nat.le_of_ble_eq_true rfl⟩ rfl (Nat.le_of_ble_eq_true rfl) dX6_pass_3 (fun M1 h => ?_)
  refine r_aload_n (pc := 6) C 0 dX6_pass_6 rfl ?_
  refine r_iload_n (pc := 7) C 1 dX6_pass_7 rfl ?_
  refine r_iload_n (pc := 8) C 2 dX6_pass_8 rfl ?_
  have hM := c_X6_cross X k0 h0 M1 x1 x2 _ h
  refine q_s0 (s1 := List.reverse [.int x1, .int x2] ++ .ref (ad X k0) :: []) rfl ?_
  refine r_callVv (pc := 9) (k := k0) (As := [.int x1, .int x2]) (st := []) C 2 (bdT h0) (ceT h0 _) rfl aw401 aw402 hM aw478 aw403 aw28 yd_X6_cross ⟨rfl, rfl⟩ ⟨Nat.le_of_ble_eq_true rfl, Nat.le_of_ble_eq_true rfl⟩ rfl (Nat.le_of_ble_eq_true rfl) dX6_pass_9 (fun M3 h => ?_)
  exact r_vret (pc := 12) C dX6_pass_12 h
theorem yd_X6_timesOf : yX6_timesOf.cls ≠ "java/lang/invoke/MethodHandle" ∧ yX6_timesOf.cls ≠ "java/lang/invoke/VarHandle" ∧ (parseMethodDescriptor yX6_timesOf.desc).map (fun d => d.parameters.length) = some 1 := by decide +kernel
def wB_X6_timesOf_4 (k0 : Nat) (Q : Int32 → Mem → Prop)  (R4 : Mem → Int32 → Int32 → Int32 → Prop) (M : Mem) (x1 : Int32) (x2 : Int32) (x3 : Int32) : Prop :=
  (((M k0 2) ≤ x3) → (Q x2 M)) ∧ ((¬ (M k0 2) ≤ x3) → (w_X6_cellOf  M x1 x3 (fun r3 M2 => vp_in r3 36 ∧ (∀ v5 : Int32, v5 = (x2 + (M2 (k0 + 9) (Int32.toNatClampNeg r3))) → (∀ v6 : Int32, v6 = x3 + 1 → (R4 M2 x1 v5 v6))))))
def wL_X6_timesOf_4 (k0 : Nat) (Q : Int32 → Mem → Prop)  : Nat → Mem → Int32 → Int32 → Int32 → Prop
  | 0 => fun _ _ _ _ => False
  | n + 1 => fun M x1 x2 x3 => wB_X6_timesOf_4 k0 Q  (wL_X6_timesOf_4 k0 Q  n) M x1 x2 x3
theorem wL_X6_timesOf_4_s {k0 : Nat} {Q : Int32 → Mem → Prop}  {n : Nat} {M : Mem} {x1 : Int32} {x2 : Int32} {x3 : Int32} (h : wL_X6_timesOf_4 k0 Q  (n + 1) M x1 x2 x3) : wB_X6_timesOf_4 k0 Q  (wL_X6_timesOf_4 k0 Q  n) M x1 x2 x3 := h
def w_X6_timesOf (k0 : Nat) (M : Mem) (x1 : Int32) (Q : Int32 → Mem → Prop) : Prop :=
  ∃ n1 : Nat, wL_X6_timesOf_4 k0 Q  n1 M x1 0 0
abbrev rm_X6_timesOf : Room := { frames := 6, cells := 0, slots := 0, locals := 120 }
set_option maxHeartbeats 4000000 in
set_option maxRecDepth 100000 in
theorem c_X6_timesOf (X : Cx) (k0 : Nat) (h0 : kd k0 = 6) (M : Mem) (x1 : Int32) (Q : Int32 → Mem → Prop) (h : w_X6_timesOf k0 M x1 Q) : Ct yX6_timesOf cX6_timesOf 4 (some .int) rm_X6_timesOf X M [.ref (ad X k0), .int x1] (Qi X Q) := by
  refine ct_of (own := RX6) (lv := [(0, .ref (ad X k0)), (1, .int x1)]) rfl (by decide) (Nat.le_of_ble_eq_true rfl) rfl ?_
  intro K C
  have hL4 : ∀  (n : Nat) (M : Mem) (x1 : Int32) (x2 : Int32) (x3 : Int32), wL_X6_timesOf_4 k0 Q  n M x1 x2 x3 → WX K X 4 (Qi X Q) M 4 [(0, .ref (ad X k0)), (1, .int x1), (2, .int x2), (3, .int x3)] [] := by
    intro  n
    induction n with
    | zero => intro M x1 x2 x3 h; exact absurd h id
    | succ n ih =>
      intro M x1 x2 x3 h
      replace h := wL_X6_timesOf_4_s h
      unfold wB_X6_timesOf_4 at h
      refine r_iload_n (pc := 4) C 3 dX6_timesOf_4 rfl ?_
      refine r_aload_n (pc := 5) C 0 dX6_timesOf_5 rfl ?_
      refine r_get (pc := 6) (k := k0) (j := 2) (Cn := RX6) (T := TX6) (N := 16) C (bdT h0) (ceT h0 _) rfl iaX6 (by decide) aw274 rfl rfl dX6_timesOf_6 ?_
      refine r_icmp_ge (pc := 9) (tgt := 31) C dX6_timesOf_9 (by decide) (fun c1 => ?_) (fun c1 => ?_)
      · have h := h.1 c1
        refine r_iload_n (pc := 31) C 2 dX6_timesOf_31 rfl ?_
        exact r_iret (pc := 32) C dX6_timesOf_32 h
      · have h := h.2 c1
        refine r_iload_n (pc := 12) C 2 dX6_timesOf_12 rfl ?_
        refine r_aload_n (pc := 13) C 0 dX6_timesOf_13 rfl ?_
        refine r_get (pc := 14) (k := k0) (j := 14) (Cn := RX6) (T := TX6) (N := 16) C (bdT h0) (ceT h0 _) rfl iaX6 (by decide) aw74 rfl rfl dX6_timesOf_14 ?_
        refine r_iload_n (pc := 17) C 1 dX6_timesOf_17 rfl ?_
        refine r_iload_n (pc := 18) C 3 dX6_timesOf_18 rfl ?_
        have hM := c_X6_cellOf X  M x1 x3 _ h
        refine q_s0 (s1 := List.reverse [.int x1, .int x3] ++ [.ref (ad X (k0 + 9)), .int x2]) rfl ?_
        refine r_callSi (pc := 19) (As := [.int x1, .int x3]) (st := [.ref (ad X (k0 + 9)), .int x2]) C 2 hM aw286 aw287 aw288 aw28 yd_X6_cellOf ⟨rfl, rfl⟩ ⟨Nat.le_of_ble_eq_true rfl, Nat.le_of_ble_eq_true rfl⟩ rfl (Nat.le_of_ble_eq_true rfl) dX6_timesOf_19 (fun r3 M2 h => ?_)
        obtain ⟨g4, h⟩ := h
        refine q_iald (pc := 22) (k := (k0 + 9)) (n := 36) (j := (Int32.toNatClampNeg r3)) C (bdT9 h0) (ceT9 h0 _) g4 rfl dX6_timesOf_22 ?_
        refine r_iadd (pc := 23) C dX6_timesOf_23 ?_
        refine r_topi (fun v5 ev5 => ?_)
        replace h := h v5 ev5
        refine r_istore_n (pc := 24) (lv2 := [(2, .int v5), (0, .ref (ad X k0)), (1, .int x1), (3, .int x3)]) C dX6_timesOf_24 (by decide) rfl ?_
        obtain ⟨v6, ev6⟩ : ∃ z : Int32, z = x3 + 1 := ⟨_, rfl⟩
        replace h := h v6 ev6
        refine r_iinc (pc := 25) (v := v6) (lv2 := [(3, .int v6), (2, .int v5), (0, .ref (ad X k0)), (1, .int x1)]) C 3 dX6_timesOf_25 rfl (by rw [ev6]; rfl) (by decide) rfl ?_
        refine r_goto (pc := 28) (tgt := 4) C dX6_timesOf_28 (by decide) ?_
        refine r_sub (lv2 := [(0, .ref (ad X k0)), (1, .int x1), (2, .int v5), (3, .int v6)]) [2, 3, 1, 0] rfl ?_
        exact ih _ _ _ _ h
  unfold w_X6_timesOf at h
  refine r_iconst (pc := 0) (v := 0) C dX6_timesOf_0 (by decide) ?_
  refine r_istore_n (pc := 1) (lv2 := [(2, .int 0), (0, .ref (ad X k0)), (1, .int x1)]) C dX6_timesOf_1 (by decide) rfl ?_
  refine r_iconst (pc := 2) (v := 0) C dX6_timesOf_2 (by decide) ?_
  refine r_istore_n (pc := 3) (lv2 := [(3, .int 0), (2, .int 0), (0, .ref (ad X k0)), (1, .int x1)]) C dX6_timesOf_3 (by decide) rfl ?_
  obtain ⟨n1, h⟩ := h
  refine r_sub (lv2 := [(0, .ref (ad X k0)), (1, .int x1), (2, .int 0), (3, .int 0)]) [2, 3, 1, 0] rfl ?_
  exact hL4  _ _ _ _ _ h
theorem yd_X6_allTimes : yX6_allTimes.cls ≠ "java/lang/invoke/MethodHandle" ∧ yX6_allTimes.cls ≠ "java/lang/invoke/VarHandle" ∧ (parseMethodDescriptor yX6_allTimes.desc).map (fun d => d.parameters.length) = some 0 := by decide +kernel
def wB_X6_allTimes_4 (k0 : Nat) (Q : Int32 → Mem → Prop)  (R4 : Mem → Int32 → Int32 → Prop) (M : Mem) (x1 : Int32) (x2 : Int32) : Prop :=
  (((M k0 3) ≤ x2) → (Q x1 M)) ∧ ((¬ (M k0 3) ≤ x2) → (w_X6_timesOf k0 M x2 (fun r3 M2 => ∀ v4 : Int32, v4 = (x1 + r3) → (∀ v5 : Int32, v5 = x2 + 1 → (R4 M2 v4 v5)))))
def wL_X6_allTimes_4 (k0 : Nat) (Q : Int32 → Mem → Prop)  : Nat → Mem → Int32 → Int32 → Prop
  | 0 => fun _ _ _ => False
  | n + 1 => fun M x1 x2 => wB_X6_allTimes_4 k0 Q  (wL_X6_allTimes_4 k0 Q  n) M x1 x2
theorem wL_X6_allTimes_4_s {k0 : Nat} {Q : Int32 → Mem → Prop}  {n : Nat} {M : Mem} {x1 : Int32} {x2 : Int32} (h : wL_X6_allTimes_4 k0 Q  (n + 1) M x1 x2) : wB_X6_allTimes_4 k0 Q  (wL_X6_allTimes_4 k0 Q  n) M x1 x2 := h
def w_X6_allTimes (k0 : Nat) (M : Mem)  (Q : Int32 → Mem → Prop) : Prop :=
  ∃ n1 : Nat, wL_X6_allTimes_4 k0 Q  n1 M 0 0
abbrev rm_X6_allTimes : Room := { frames := 9, cells := 0, slots := 0, locals := 180 }
set_option maxHeartbeats 4000000 in
set_option maxRecDepth 100000 in
theorem c_X6_allTimes (X : Cx) (k0 : Nat) (h0 : kd k0 = 6) (M : Mem)  (Q : Int32 → Mem → Prop) (h : w_X6_allTimes k0 M  Q) : Ct yX6_allTimes cX6_allTimes 3 (some .int) rm_X6_allTimes X M [.ref (ad X k0)] (Qi X Q) := by
  refine ct_of (own := RX6) (lv := [(0, .ref (ad X k0))]) rfl (by decide) (Nat.le_of_ble_eq_true rfl) rfl ?_
  intro K C
  have hL4 : ∀  (n : Nat) (M : Mem) (x1 : Int32) (x2 : Int32), wL_X6_allTimes_4 k0 Q  n M x1 x2 → WX K X 3 (Qi X Q) M 4 [(0, .ref (ad X k0)), (1, .int x1), (2, .int x2)] [] := by
    intro  n
    induction n with
    | zero => intro M x1 x2 h; exact absurd h id
    | succ n ih =>
      intro M x1 x2 h
      replace h := wL_X6_allTimes_4_s h
      unfold wB_X6_allTimes_4 at h
      refine r_iload_n (pc := 4) C 2 dX6_allTimes_4 rfl ?_
      refine r_aload_n (pc := 5) C 0 dX6_allTimes_5 rfl ?_
      refine r_get (pc := 6) (k := k0) (j := 3) (Cn := RX6) (T := TX6) (N := 16) C (bdT h0) (ceT h0 _) rfl iaX6 (by decide) aw275 rfl rfl dX6_allTimes_6 ?_
      refine r_icmp_ge (pc := 9) (tgt := 26) C dX6_allTimes_9 (by decide) (fun c1 => ?_) (fun c1 => ?_)
      · have h := h.1 c1
        refine r_iload_n (pc := 26) C 1 dX6_allTimes_26 rfl ?_
        exact r_iret (pc := 27) C dX6_allTimes_27 h
      · have h := h.2 c1
        refine r_iload_n (pc := 12) C 1 dX6_allTimes_12 rfl ?_
        refine r_aload_n (pc := 13) C 0 dX6_allTimes_13 rfl ?_
        refine r_iload_n (pc := 14) C 2 dX6_allTimes_14 rfl ?_
        have hM := c_X6_timesOf X k0 h0 M x2 _ h
        refine q_s0 (s1 := List.reverse [.int x2] ++ .ref (ad X k0) :: [.int x1]) rfl ?_
        refine r_callVi (pc := 15) (k := k0) (As := [.int x2]) (st := [.int x1]) C 1 (bdT h0) (ceT h0 _) rfl aw583 aw584 hM aw974 aw585 aw28 yd_X6_timesOf ⟨rfl, rfl⟩ ⟨Nat.le_of_ble_eq_true rfl, Nat.le_of_ble_eq_true rfl⟩ rfl (Nat.le_of_ble_eq_true rfl) dX6_allTimes_15 (fun r3 M2 h => ?_)
        refine r_iadd (pc := 18) C dX6_allTimes_18 ?_
        refine r_topi (fun v4 ev4 => ?_)
        replace h := h v4 ev4
        refine r_istore_n (pc := 19) (lv2 := [(1, .int v4), (0, .ref (ad X k0)), (2, .int x2)]) C dX6_allTimes_19 (by decide) rfl ?_
        obtain ⟨v5, ev5⟩ : ∃ z : Int32, z = x2 + 1 := ⟨_, rfl⟩
        replace h := h v5 ev5
        refine r_iinc (pc := 20) (v := v5) (lv2 := [(2, .int v5), (1, .int v4), (0, .ref (ad X k0))]) C 2 dX6_allTimes_20 rfl (by rw [ev5]; rfl) (by decide) rfl ?_
        refine r_goto (pc := 23) (tgt := 4) C dX6_allTimes_23 (by decide) ?_
        refine r_sub (lv2 := [(0, .ref (ad X k0)), (1, .int v4), (2, .int v5)]) [2, 1, 0] rfl ?_
        exact ih _ _ _ h
  unfold w_X6_allTimes at h
  refine r_iconst (pc := 0) (v := 0) C dX6_allTimes_0 (by decide) ?_
  refine r_istore_n (pc := 1) (lv2 := [(1, .int 0), (0, .ref (ad X k0))]) C dX6_allTimes_1 (by decide) rfl ?_
  refine r_iconst (pc := 2) (v := 0) C dX6_allTimes_2 (by decide) ?_
  refine r_istore_n (pc := 3) (lv2 := [(2, .int 0), (1, .int 0), (0, .ref (ad X k0))]) C dX6_allTimes_3 (by decide) rfl ?_
  obtain ⟨n1, h⟩ := h
  refine r_sub (lv2 := [(0, .ref (ad X k0)), (1, .int 0), (2, .int 0)]) [2, 1, 0] rfl ?_
  exact hL4  _ _ _ _ h
theorem yd_X6_passedThrough : yX6_passedThrough.cls ≠ "java/lang/invoke/MethodHandle" ∧ yX6_passedThrough.cls ≠ "java/lang/invoke/VarHandle" ∧ (parseMethodDescriptor yX6_passedThrough.desc).map (fun d => d.parameters.length) = some 1 := by decide +kernel
def wB_X6_passedThrough_4 (k0 : Nat) (Q : Int32 → Mem → Prop)  (R4 : Mem → Int32 → Int32 → Int32 → Prop) (M : Mem) (x1 : Int32) (x2 : Int32) (x3 : Int32) : Prop :=
  (((M k0 3) ≤ x3) → (Q x2 M)) ∧ ((¬ (M k0 3) ≤ x3) → (w_X6_cellOf  M x3 x1 (fun r3 M2 => vp_in r3 36 ∧ ((((M2 (k0 + 9) (Int32.toNatClampNeg r3)) = 0) → (∀ v6 : Int32, v6 = x3 + 1 → (R4 M2 x1 x2 v6))) ∧ ((¬ (M2 (k0 + 9) (Int32.toNatClampNeg r3)) = 0) → (∀ v7 : Int32, v7 = (x2 ||| (1 <<< (x3 &&& 31))) → (∀ v8 : Int32, v8 = x3 + 1 → (R4 M2 x1 v7 v8))))))))
def wL_X6_passedThrough_4 (k0 : Nat) (Q : Int32 → Mem → Prop)  : Nat → Mem → Int32 → Int32 → Int32 → Prop
  | 0 => fun _ _ _ _ => False
  | n + 1 => fun M x1 x2 x3 => wB_X6_passedThrough_4 k0 Q  (wL_X6_passedThrough_4 k0 Q  n) M x1 x2 x3
theorem wL_X6_passedThrough_4_s {k0 : Nat} {Q : Int32 → Mem → Prop}  {n : Nat} {M : Mem} {x1 : Int32} {x2 : Int32} {x3 : Int32} (h : wL_X6_passedThrough_4 k0 Q  (n + 1) M x1 x2 x3) : wB_X6_passedThrough_4 k0 Q  (wL_X6_passedThrough_4 k0 Q  n) M x1 x2 x3 := h
def w_X6_passedThrough (k0 : Nat) (M : Mem) (x1 : Int32) (Q : Int32 → Mem → Prop) : Prop :=
  ∃ n1 : Nat, wL_X6_passedThrough_4 k0 Q  n1 M x1 0 0
abbrev rm_X6_passedThrough : Room := { frames := 6, cells := 0, slots := 0, locals := 120 }
set_option maxHeartbeats 4000000 in
set_option maxRecDepth 100000 in
theorem c_X6_passedThrough (X : Cx) (k0 : Nat) (h0 : kd k0 = 6) (M : Mem) (x1 : Int32) (Q : Int32 → Mem → Prop) (h : w_X6_passedThrough k0 M x1 Q) : Ct yX6_passedThrough cX6_passedThrough 4 (some .int) rm_X6_passedThrough X M [.ref (ad X k0), .int x1] (Qi X Q) := by
  refine ct_of (own := RX6) (lv := [(0, .ref (ad X k0)), (1, .int x1)]) rfl (by decide) (Nat.le_of_ble_eq_true rfl) rfl ?_
  intro K C
  have hL4 : ∀  (n : Nat) (M : Mem) (x1 : Int32) (x2 : Int32) (x3 : Int32), wL_X6_passedThrough_4 k0 Q  n M x1 x2 x3 → WX K X 4 (Qi X Q) M 4 [(0, .ref (ad X k0)), (1, .int x1), (2, .int x2), (3, .int x3)] [] := by
    intro  n
    induction n with
    | zero => intro M x1 x2 x3 h; exact absurd h id
    | succ n ih =>
      intro M x1 x2 x3 h
      replace h := wL_X6_passedThrough_4_s h
      unfold wB_X6_passedThrough_4 at h
      refine r_iload_n (pc := 4) C 3 dX6_passedThrough_4 rfl ?_
      refine r_aload_n (pc := 5) C 0 dX6_passedThrough_5 rfl ?_
      refine r_get (pc := 6) (k := k0) (j := 3) (Cn := RX6) (T := TX6) (N := 16) C (bdT h0) (ceT h0 _) rfl iaX6 (by decide) aw275 rfl rfl dX6_passedThrough_6 ?_
      refine r_icmp_ge (pc := 9) (tgt := 37) C dX6_passedThrough_9 (by decide) (fun c1 => ?_) (fun c1 => ?_)
      · have h := h.1 c1
        refine r_iload_n (pc := 37) C 2 dX6_passedThrough_37 rfl ?_
        exact r_iret (pc := 38) C dX6_passedThrough_38 h
      · have h := h.2 c1
        refine r_aload_n (pc := 12) C 0 dX6_passedThrough_12 rfl ?_
        refine r_get (pc := 13) (k := k0) (j := 14) (Cn := RX6) (T := TX6) (N := 16) C (bdT h0) (ceT h0 _) rfl iaX6 (by decide) aw74 rfl rfl dX6_passedThrough_13 ?_
        refine r_iload_n (pc := 16) C 3 dX6_passedThrough_16 rfl ?_
        refine r_iload_n (pc := 17) C 1 dX6_passedThrough_17 rfl ?_
        have hM := c_X6_cellOf X  M x3 x1 _ h
        refine q_s0 (s1 := List.reverse [.int x3, .int x1] ++ [.ref (ad X (k0 + 9))]) rfl ?_
        refine r_callSi (pc := 18) (As := [.int x3, .int x1]) (st := [.ref (ad X (k0 + 9))]) C 2 hM aw286 aw287 aw288 aw28 yd_X6_cellOf ⟨rfl, rfl⟩ ⟨Nat.le_of_ble_eq_true rfl, Nat.le_of_ble_eq_true rfl⟩ rfl (Nat.le_of_ble_eq_true rfl) dX6_passedThrough_18 (fun r3 M2 h => ?_)
        obtain ⟨g4, h⟩ := h
        refine q_iald (pc := 21) (k := (k0 + 9)) (n := 36) (j := (Int32.toNatClampNeg r3)) C (bdT9 h0) (ceT9 h0 _) g4 rfl dX6_passedThrough_21 ?_
        refine r_if_eq (pc := 22) (tgt := 31) C dX6_passedThrough_22 (by decide) (fun c5 => ?_) (fun c5 => ?_)
        · have h := h.1 c5
          obtain ⟨v6, ev6⟩ : ∃ z : Int32, z = x3 + 1 := ⟨_, rfl⟩
          replace h := h v6 ev6
          refine r_iinc (pc := 31) (v := v6) (lv2 := [(3, .int v6), (0, .ref (ad X k0)), (1, .int x1), (2, .int x2)]) C 3 dX6_passedThrough_31 rfl (by rw [ev6]; rfl) (by decide) rfl ?_
          refine r_goto (pc := 34) (tgt := 4) C dX6_passedThrough_34 (by decide) ?_
          refine r_sub (lv2 := [(0, .ref (ad X k0)), (1, .int x1), (2, .int x2), (3, .int v6)]) [1, 2, 3, 0] rfl ?_
          exact ih _ _ _ _ h
        · have h := h.2 c5
          refine r_iload_n (pc := 25) C 2 dX6_passedThrough_25 rfl ?_
          refine r_iconst (pc := 26) (v := 1) C dX6_passedThrough_26 (by decide) ?_
          refine r_iload_n (pc := 27) C 3 dX6_passedThrough_27 rfl ?_
          refine r_ishl (pc := 28) C dX6_passedThrough_28 ?_
          refine r_ior (pc := 29) C dX6_passedThrough_29 ?_
          refine r_topi (fun v7 ev7 => ?_)
          replace h := h v7 ev7
          refine r_istore_n (pc := 30) (lv2 := [(2, .int v7), (0, .ref (ad X k0)), (1, .int x1), (3, .int x3)]) C dX6_passedThrough_30 (by decide) rfl ?_
          obtain ⟨v8, ev8⟩ : ∃ z : Int32, z = x3 + 1 := ⟨_, rfl⟩
          replace h := h v8 ev8
          refine r_iinc (pc := 31) (v := v8) (lv2 := [(3, .int v8), (2, .int v7), (0, .ref (ad X k0)), (1, .int x1)]) C 3 dX6_passedThrough_31 rfl (by rw [ev8]; rfl) (by decide) rfl ?_
          refine r_goto (pc := 34) (tgt := 4) C dX6_passedThrough_34 (by decide) ?_
          refine r_sub (lv2 := [(0, .ref (ad X k0)), (1, .int x1), (2, .int v7), (3, .int v8)]) [2, 3, 1, 0] rfl ?_
          exact ih _ _ _ _ h
  unfold w_X6_passedThrough at h
  refine r_iconst (pc := 0) (v := 0) C dX6_passedThrough_0 (by decide) ?_
  refine r_istore_n (pc := 1) (lv2 := [(2, .int 0), (0, .ref (ad X k0)), (1, .int x1)]) C dX6_passedThrough_1 (by decide) rfl ?_
  refine r_iconst (pc := 2) (v := 0) C dX6_passedThrough_2 (by decide) ?_
  refine r_istore_n (pc := 3) (lv2 := [(3, .int 0), (2, .int 0), (0, .ref (ad X k0)), (1, .int x1)]) C dX6_passedThrough_3 (by decide) rfl ?_
  obtain ⟨n1, h⟩ := h
  refine r_sub (lv2 := [(0, .ref (ad X k0)), (1, .int x1), (2, .int 0), (3, .int 0)]) [2, 3, 1, 0] rfl ?_
  exact hL4  _ _ _ _ _ h
theorem yd_X6_roomsAdded : yX6_roomsAdded.cls ≠ "java/lang/invoke/MethodHandle" ∧ yX6_roomsAdded.cls ≠ "java/lang/invoke/VarHandle" ∧ (parseMethodDescriptor yX6_roomsAdded.desc).map (fun d => d.parameters.length) = some 0 := by decide +kernel
def wB_X6_roomsAdded_4 (k0 : Nat) (Q : Int32 → Mem → Prop)  (R4 : Mem → Int32 → Int32 → Prop) (M : Mem) (x1 : Int32) (x2 : Int32) : Prop :=
  (((M k0 3) ≤ x2) → (Q x1 M)) ∧ ((¬ (M k0 3) ≤ x2) → (vp_in x2 6 ∧ (∀ v3 : Int32, v3 = (x1 + (M (k0 + 4) (Int32.toNatClampNeg x2))) → (∀ v4 : Int32, v4 = x2 + 1 → (R4 M v3 v4)))))
def wL_X6_roomsAdded_4 (k0 : Nat) (Q : Int32 → Mem → Prop)  : Nat → Mem → Int32 → Int32 → Prop
  | 0 => fun _ _ _ => False
  | n + 1 => fun M x1 x2 => wB_X6_roomsAdded_4 k0 Q  (wL_X6_roomsAdded_4 k0 Q  n) M x1 x2
theorem wL_X6_roomsAdded_4_s {k0 : Nat} {Q : Int32 → Mem → Prop}  {n : Nat} {M : Mem} {x1 : Int32} {x2 : Int32} (h : wL_X6_roomsAdded_4 k0 Q  (n + 1) M x1 x2) : wB_X6_roomsAdded_4 k0 Q  (wL_X6_roomsAdded_4 k0 Q  n) M x1 x2 := h
def w_X6_roomsAdded (k0 : Nat) (M : Mem)  (Q : Int32 → Mem → Prop) : Prop :=
  ∃ n1 : Nat, wL_X6_roomsAdded_4 k0 Q  n1 M 0 0
abbrev rm_X6_roomsAdded : Room := { frames := 3, cells := 0, slots := 0, locals := 60 }
set_option maxHeartbeats 4000000 in
set_option maxRecDepth 100000 in
theorem c_X6_roomsAdded (X : Cx) (k0 : Nat) (h0 : kd k0 = 6) (M : Mem)  (Q : Int32 → Mem → Prop) (h : w_X6_roomsAdded k0 M  Q) : Ct yX6_roomsAdded cX6_roomsAdded 3 (some .int) rm_X6_roomsAdded X M [.ref (ad X k0)] (Qi X Q) := by
  refine ct_of (own := RX6) (lv := [(0, .ref (ad X k0))]) rfl (by decide) (Nat.le_of_ble_eq_true rfl) rfl ?_
  intro K C
  have hL4 : ∀  (n : Nat) (M : Mem) (x1 : Int32) (x2 : Int32), wL_X6_roomsAdded_4 k0 Q  n M x1 x2 → WX K X 3 (Qi X Q) M 4 [(0, .ref (ad X k0)), (1, .int x1), (2, .int x2)] [] := by
    intro  n
    induction n with
    | zero => intro M x1 x2 h; exact absurd h id
    | succ n ih =>
      intro M x1 x2 h
      replace h := wL_X6_roomsAdded_4_s h
      unfold wB_X6_roomsAdded_4 at h
      refine r_iload_n (pc := 4) C 2 dX6_roomsAdded_4 rfl ?_
      refine r_aload_n (pc := 5) C 0 dX6_roomsAdded_5 rfl ?_
      refine r_get (pc := 6) (k := k0) (j := 3) (Cn := RX6) (T := TX6) (N := 16) C (bdT h0) (ceT h0 _) rfl iaX6 (by decide) aw275 rfl rfl dX6_roomsAdded_6 ?_
      refine r_icmp_ge (pc := 9) (tgt := 27) C dX6_roomsAdded_9 (by decide) (fun c1 => ?_) (fun c1 => ?_)
      · have h := h.1 c1
        refine r_iload_n (pc := 27) C 1 dX6_roomsAdded_27 rfl ?_
        exact r_iret (pc := 28) C dX6_roomsAdded_28 h
      · have h := h.2 c1
        refine r_iload_n (pc := 12) C 1 dX6_roomsAdded_12 rfl ?_
        refine r_aload_n (pc := 13) C 0 dX6_roomsAdded_13 rfl ?_
        refine r_get (pc := 14) (k := k0) (j := 9) (Cn := RX6) (T := TX6) (N := 16) C (bdT h0) (ceT h0 _) rfl iaX6 (by decide) aw69 rfl rfl dX6_roomsAdded_14 ?_
        refine r_iload_n (pc := 17) C 2 dX6_roomsAdded_17 rfl ?_
        obtain ⟨g2, h⟩ := h
        refine q_iald (pc := 18) (k := (k0 + 4)) (n := 6) (j := (Int32.toNatClampNeg x2)) C (bdT4 h0) (ceT4 h0 _) g2 rfl dX6_roomsAdded_18 ?_
        refine r_iadd (pc := 19) C dX6_roomsAdded_19 ?_
        refine r_topi (fun v3 ev3 => ?_)
        replace h := h v3 ev3
        refine r_istore_n (pc := 20) (lv2 := [(1, .int v3), (0, .ref (ad X k0)), (2, .int x2)]) C dX6_roomsAdded_20 (by decide) rfl ?_
        obtain ⟨v4, ev4⟩ : ∃ z : Int32, z = x2 + 1 := ⟨_, rfl⟩
        replace h := h v4 ev4
        refine r_iinc (pc := 21) (v := v4) (lv2 := [(2, .int v4), (1, .int v3), (0, .ref (ad X k0))]) C 2 dX6_roomsAdded_21 rfl (by rw [ev4]; rfl) (by decide) rfl ?_
        refine r_goto (pc := 24) (tgt := 4) C dX6_roomsAdded_24 (by decide) ?_
        refine r_sub (lv2 := [(0, .ref (ad X k0)), (1, .int v3), (2, .int v4)]) [2, 1, 0] rfl ?_
        exact ih _ _ _ h
  unfold w_X6_roomsAdded at h
  refine r_iconst (pc := 0) (v := 0) C dX6_roomsAdded_0 (by decide) ?_
  refine r_istore_n (pc := 1) (lv2 := [(1, .int 0), (0, .ref (ad X k0))]) C dX6_roomsAdded_1 (by decide) rfl ?_
  refine r_iconst (pc := 2) (v := 0) C dX6_roomsAdded_2 (by decide) ?_
  refine r_istore_n (pc := 3) (lv2 := [(2, .int 0), (1, .int 0), (0, .ref (ad X k0))]) C dX6_roomsAdded_3 (by decide) rfl ?_
  obtain ⟨n1, h⟩ := h
  refine r_sub (lv2 := [(0, .ref (ad X k0)), (1, .int 0), (2, .int 0)]) [2, 1, 0] rfl ?_
  exact hL4  _ _ _ _ h
theorem yd_J6_bitCount_0f7a4 : yJ6_bitCount_0f7a4.cls ≠ "java/lang/invoke/MethodHandle" ∧ yJ6_bitCount_0f7a4.cls ≠ "java/lang/invoke/VarHandle" ∧ (parseMethodDescriptor yJ6_bitCount_0f7a4.desc).map (fun d => d.parameters.length) = some 1 := by decide +kernel
def w_J6_bitCount_0f7a4  (M : Mem) (x0 : Int32) (Q : Int32 → Mem → Prop) : Prop :=
  ∀ v1 : Int32, v1 = (x0 - (((Int32.toUInt32 x0 >>> (Int32.toUInt32 1 &&& Int32.toUInt32 31)).toInt32) &&& 1431655765)) → (∀ v2 : Int32, v2 = ((v1 &&& 858993459) + (((Int32.toUInt32 v1 >>> (Int32.toUInt32 2 &&& Int32.toUInt32 31)).toInt32) &&& 858993459)) → (∀ v3 : Int32, v3 = ((v2 + ((Int32.toUInt32 v2 >>> (Int32.toUInt32 4 &&& Int32.toUInt32 31)).toInt32)) &&& 252645135) → (∀ v4 : Int32, v4 = (v3 + ((Int32.toUInt32 v3 >>> (Int32.toUInt32 8 &&& Int32.toUInt32 31)).toInt32)) → (∀ v5 : Int32, v5 = (v4 + ((Int32.toUInt32 v4 >>> (Int32.toUInt32 16 &&& Int32.toUInt32 31)).toInt32)) → (Q (v5 &&& 63) M)))))
abbrev rm_J6_bitCount_0f7a4 : Room := { frames := 3, cells := 0, slots := 0, locals := 60 }
set_option maxHeartbeats 4000000 in
set_option maxRecDepth 100000 in
theorem c_J6_bitCount_0f7a4 (X : Cx)  (M : Mem) (x0 : Int32) (Q : Int32 → Mem → Prop) (h : w_J6_bitCount_0f7a4  M x0 Q) : Ct yJ6_bitCount_0f7a4 cJ6_bitCount_0f7a4 1 (some .int) rm_J6_bitCount_0f7a4 X M [.int x0] (Qi X Q) := by
  refine ct_of (own := RJ6) (lv := [(0, .int x0)]) rfl (by decide) (Nat.le_of_ble_eq_true rfl) rfl ?_
  intro K C
  unfold w_J6_bitCount_0f7a4 at h
  refine r_iload_n (pc := 0) C 0 dJ6_bitCount_0f7a4_0 rfl ?_
  refine r_iload_n (pc := 1) C 0 dJ6_bitCount_0f7a4_1 rfl ?_
  refine r_iconst (pc := 2) (v := 1) C dJ6_bitCount_0f7a4_2 (by decide) ?_
  refine r_iushr (pc := 3) C dJ6_bitCount_0f7a4_3 ?_
  refine r_ldcw (pc := 4) C aw757 dJ6_bitCount_0f7a4_4 ?_
  refine r_iand (pc := 7) C dJ6_bitCount_0f7a4_7 ?_
  refine r_isub (pc := 8) C dJ6_bitCount_0f7a4_8 ?_
  refine r_topi (fun v1 ev1 => ?_)
  replace h := h v1 ev1
  refine r_istore_n (pc := 9) (lv2 := [(0, .int v1)]) C dJ6_bitCount_0f7a4_9 (by decide) rfl ?_
  refine r_iload_n (pc := 10) C 0 dJ6_bitCount_0f7a4_10 rfl ?_
  refine r_ldcw (pc := 11) C aw758 dJ6_bitCount_0f7a4_11 ?_
  refine r_iand (pc := 14) C dJ6_bitCount_0f7a4_14 ?_
  refine r_iload_n (pc := 15) C 0 dJ6_bitCount_0f7a4_15 rfl ?_
  refine r_iconst (pc := 16) (v := 2) C dJ6_bitCount_0f7a4_16 (by decide) ?_
  refine r_iushr (pc := 17) C dJ6_bitCount_0f7a4_17 ?_
  refine r_ldcw (pc := 18) C aw758 dJ6_bitCount_0f7a4_18 ?_
  refine r_iand (pc := 21) C dJ6_bitCount_0f7a4_21 ?_
  refine r_iadd (pc := 22) C dJ6_bitCount_0f7a4_22 ?_
  refine r_topi (fun v2 ev2 => ?_)
  replace h := h v2 ev2
  refine r_istore_n (pc := 23) (lv2 := [(0, .int v2)]) C dJ6_bitCount_0f7a4_23 (by decide) rfl ?_
  refine r_iload_n (pc := 24) C 0 dJ6_bitCount_0f7a4_24 rfl ?_
  refine r_iload_n (pc := 25) C 0 dJ6_bitCount_0f7a4_25 rfl ?_
  refine r_iconst (pc := 26) (v := 4) C dJ6_bitCount_0f7a4_26 (by decide) ?_
  refine r_iushr (pc := 27) C dJ6_bitCount_0f7a4_27 ?_
  refine r_iadd (pc := 28) C dJ6_bitCount_0f7a4_28 ?_
  refine r_ldcw (pc := 29) C aw759 dJ6_bitCount_0f7a4_29 ?_
  refine r_iand (pc := 32) C dJ6_bitCount_0f7a4_32 ?_
  refine r_topi (fun v3 ev3 => ?_)
  replace h := h v3 ev3
  refine r_istore_n (pc := 33) (lv2 := [(0, .int v3)]) C dJ6_bitCount_0f7a4_33 (by decide) rfl ?_
  refine r_iload_n (pc := 34) C 0 dJ6_bitCount_0f7a4_34 rfl ?_
  refine r_iload_n (pc := 35) C 0 dJ6_bitCount_0f7a4_35 rfl ?_
  refine r_bipush (pc := 36) (v := 8) C dJ6_bitCount_0f7a4_36 (by decide) ?_
  refine r_iushr (pc := 38) C dJ6_bitCount_0f7a4_38 ?_
  refine r_iadd (pc := 39) C dJ6_bitCount_0f7a4_39 ?_
  refine r_topi (fun v4 ev4 => ?_)
  replace h := h v4 ev4
  refine r_istore_n (pc := 40) (lv2 := [(0, .int v4)]) C dJ6_bitCount_0f7a4_40 (by decide) rfl ?_
  refine r_iload_n (pc := 41) C 0 dJ6_bitCount_0f7a4_41 rfl ?_
  refine r_iload_n (pc := 42) C 0 dJ6_bitCount_0f7a4_42 rfl ?_
  refine r_bipush (pc := 43) (v := 16) C dJ6_bitCount_0f7a4_43 (by decide) ?_
  refine r_iushr (pc := 45) C dJ6_bitCount_0f7a4_45 ?_
  refine r_iadd (pc := 46) C dJ6_bitCount_0f7a4_46 ?_
  refine r_topi (fun v5 ev5 => ?_)
  replace h := h v5 ev5
  refine r_istore_n (pc := 47) (lv2 := [(0, .int v5)]) C dJ6_bitCount_0f7a4_47 (by decide) rfl ?_
  refine r_iload_n (pc := 48) C 0 dJ6_bitCount_0f7a4_48 rfl ?_
  refine r_bipush (pc := 49) (v := 63) C dJ6_bitCount_0f7a4_49 (by decide) ?_
  refine r_iand (pc := 51) C dJ6_bitCount_0f7a4_51 ?_
  exact r_iret (pc := 52) C dJ6_bitCount_0f7a4_52 h
