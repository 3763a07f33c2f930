theorem yd_X8_finding : yX8_finding.cls ≠ "java/lang/invoke/MethodHandle" ∧ yX8_finding.cls ≠ "java/lang/invoke/VarHandle" ∧ (parseMethodDescriptor yX8_finding.desc).map (fun d => d.parameters.length) = some 1 := by decide +kernel
def w_X8_finding  (M : Mem) (x1 : Int32) (Q : Int32 → Mem → Prop) : Prop :=
  ∀ M1 : Mem, M1 = ms M 0 11 x1 → (Q ((-1000010) - x1) M1)
abbrev rm_X8_finding : Room := { frames := 3, cells := 0, slots := 0, locals := 60 }
set_option maxHeartbeats 4000000 in
set_option maxRecDepth 100000 in
theorem c_X8_finding (X : Cx)  (M : Mem) (x1 : Int32) (Q : Int32 → Mem → Prop) (h : w_X8_finding  M x1 Q) : Ct yX8_finding cX8_finding 2 (some .int) rm_X8_finding X M [.ref (ad X 0), .int x1] (Qi X Q) := by
  refine ct_of (own := RX8) (lv := [(0, .ref (ad X 0)), (1, .int x1)]) rfl (by decide) (Nat.le_of_ble_eq_true rfl) rfl ?_
  intro K C
  unfold w_X8_finding at h
  refine r_aload_n (pc := 0) C 0 dX8_finding_0 rfl ?_
  refine r_iload_n (pc := 1) C 1 dX8_finding_1 rfl ?_
  refine r_put (pc := 2) (k := 0) (j := 11) (Cn := RX8) (T := TX8) (N := 12) (host := "") C (by decide) (ce0 _) rfl iaX8 (by decide) (ce0 _) tyX8_ok nmX8 aw123 rfl rfl (tyX8_ok 11 (by decide)) (Nat.le_of_ble_eq_true rfl) dX8_finding_2 ?_
  refine r_topM (fun M1 eM1 => ?_)
  replace h := h M1 eM1
  refine r_ldcw (pc := 5) C aw124 dX8_finding_5 ?_
  refine r_iload_n (pc := 8) C 1 dX8_finding_8 rfl ?_
  refine r_isub (pc := 9) C dX8_finding_9 ?_
  exact r_iret (pc := 10) C dX8_finding_10 h
theorem yd_X8_unfound : yX8_unfound.cls ≠ "java/lang/invoke/MethodHandle" ∧ yX8_unfound.cls ≠ "java/lang/invoke/VarHandle" ∧ (parseMethodDescriptor yX8_unfound.desc).map (fun d => d.parameters.length) = some 1 := by decide +kernel
def w_X8_unfound  (M : Mem) (x1 : Int32) (Q : Int32 → Mem → Prop) : Prop :=
  ∀ M1 : Mem, M1 = ms M 0 11 0 → (Q x1 M1)
abbrev rm_X8_unfound : Room := { frames := 3, cells := 0, slots := 0, locals := 60 }
set_option maxHeartbeats 4000000 in
set_option maxRecDepth 100000 in
theorem c_X8_unfound (X : Cx)  (M : Mem) (x1 : Int32) (Q : Int32 → Mem → Prop) (h : w_X8_unfound  M x1 Q) : Ct yX8_unfound cX8_unfound 2 (some .int) rm_X8_unfound X M [.ref (ad X 0), .int x1] (Qi X Q) := by
  refine ct_of (own := RX8) (lv := [(0, .ref (ad X 0)), (1, .int x1)]) rfl (by decide) (Nat.le_of_ble_eq_true rfl) rfl ?_
  intro K C
  unfold w_X8_unfound at h
  refine r_aload_n (pc := 0) C 0 dX8_unfound_0 rfl ?_
  refine r_iconst (pc := 1) (v := 0) C dX8_unfound_1 (by decide) ?_
  refine r_put (pc := 2) (k := 0) (j := 11) (Cn := RX8) (T := TX8) (N := 12) (host := "") C (by decide) (ce0 _) rfl iaX8 (by decide) (ce0 _) tyX8_ok nmX8 aw123 rfl rfl (tyX8_ok 11 (by decide)) (Nat.le_of_ble_eq_true rfl) dX8_unfound_2 ?_
  refine r_topM (fun M1 eM1 => ?_)
  replace h := h M1 eM1
  refine r_iload_n (pc := 5) C 1 dX8_unfound_5 rfl ?_
  exact r_iret (pc := 6) C dX8_unfound_6 h
theorem yd_X8_row : yX8_row.cls ≠ "java/lang/invoke/MethodHandle" ∧ yX8_row.cls ≠ "java/lang/invoke/VarHandle" ∧ (parseMethodDescriptor yX8_row.desc).map (fun d => d.parameters.length) = some 3 := by decide +kernel
def w_X8_row  (M : Mem) (x1 : Int32) (x2 : Int32) (x3 : Int32) (Q : Int32 → Mem → Prop) : Prop :=
  w_X8_within  M x1 8 (fun r2 M1 => ((r2 = 0) → (Q (-1000001) M1)) ∧ ((¬ r2 = 0) → (w_X8_within  M1 x2 3 (fun r5 M4 => ((r5 = 0) → (Q (-1000001) M4)) ∧ ((¬ r5 = 0) → (((x3 ≤ 40) → (((0 ≤ x3) → (vp_in x1 8 ∧ (w_X4_begin (3 + 2 * Int32.toNatClampNeg x1) M4 x2 x3 (fun M10 => w_X8_unfound  M10 x3 (fun r13 M12 => Q r13 M12))))) ∧ ((¬ 0 ≤ x3) → (w_X8_finding  M4 4 (fun r15 M14 => Q r15 M14))))) ∧ ((¬ x3 ≤ 40) → (Q (-1000001) M4))))))))
abbrev rm_X8_row : Room := { frames := 9, cells := 0, slots := 0, locals := 180 }
set_option maxHeartbeats 4000000 in
set_option maxRecDepth 100000 in
theorem c_X8_row (X : Cx)  (M : Mem) (x1 : Int32) (x2 : Int32) (x3 : Int32) (Q : Int32 → Mem → Prop) (h : w_X8_row  M x1 x2 x3 Q) : Ct yX8_row cX8_row 4 (some .int) rm_X8_row X M [.ref (ad X 0), .int x1, .int x2, .int x3] (Qi X Q) := by
  refine ct_of (own := RX8) (lv := [(0, .ref (ad X 0)), (1, .int x1), (2, .int x2), (3, .int x3)]) rfl (by decide) (Nat.le_of_ble_eq_true rfl) rfl ?_
  intro K C
  unfold w_X8_row at h
  refine r_iload_n (pc := 0) C 1 dX8_row_0 rfl ?_
  refine r_bipush (pc := 1) (v := 8) C dX8_row_1 (by decide) ?_
  have hM := c_X8_within X  M x1 8 _ h
  refine q_s0 (s1 := List.reverse [.int x1, .int 8] ++ []) rfl ?_
  refine r_callSi (pc := 3) (As := [.int x1, .int 8]) (st := []) C 2 hM aw116 aw117 aw118 aw2 yd_X8_within ⟨rfl, rfl⟩ ⟨Nat.le_of_ble_eq_true rfl, Nat.le_of_ble_eq_true rfl⟩ rfl (Nat.le_of_ble_eq_true rfl) dX8_row_3 (fun r2 M1 h => ?_)
  refine r_if_eq (pc := 6) (tgt := 23) C dX8_row_6 (by decide) (fun c3 => ?_) (fun c3 => ?_)
  · have h := h.1 c3
    refine r_ldc (pc := 23) C aw115 dX8_row_23 ?_
    exact r_iret (pc := 25) C dX8_row_25 h
  · have h := h.2 c3
    refine r_iload_n (pc := 9) C 2 dX8_row_9 rfl ?_
    refine r_iconst (pc := 10) (v := 3) C dX8_row_10 (by decide) ?_
    have hM := c_X8_within X  M1 x2 3 _ h
    refine q_s0 (s1 := List.reverse [.int x2, .int 3] ++ []) rfl ?_
    refine r_callSi (pc := 11) (As := [.int x2, .int 3]) (st := []) C 2 hM aw116 aw117 aw118 aw2 yd_X8_within ⟨rfl, rfl⟩ ⟨Nat.le_of_ble_eq_true rfl, Nat.le_of_ble_eq_true rfl⟩ rfl (Nat.le_of_ble_eq_true rfl) dX8_row_11 (fun r5 M4 h => ?_)
    refine r_if_eq (pc := 14) (tgt := 23) C dX8_row_14 (by decide) (fun c6 => ?_) (fun c6 => ?_)
    · have h := h.1 c6
      refine r_ldc (pc := 23) C aw115 dX8_row_23 ?_
      exact r_iret (pc := 25) C dX8_row_25 h
    · have h := h.2 c6
      refine r_iload_n (pc := 17) C 3 dX8_row_17 rfl ?_
      refine r_bipush (pc := 18) (v := 40) C dX8_row_18 (by decide) ?_
      refine r_icmp_le (pc := 20) (tgt := 26) C dX8_row_20 (by decide) (fun c7 => ?_) (fun c7 => ?_)
      · have h := h.1 c7
        refine r_iload_n (pc := 26) C 3 dX8_row_26 rfl ?_
        refine r_if_ge (pc := 27) (tgt := 36) C dX8_row_27 (by decide) (fun c8 => ?_) (fun c8 => ?_)
        · have h := h.1 c8
          refine r_aload_n (pc := 36) C 0 dX8_row_36 rfl ?_
          refine r_get (pc := 37) (k := 0) (j := 0) (Cn := RX8) (T := TX8) (N := 12) C (by decide) (ce0 _) rfl iaX8 (by decide) aw13 rfl rfl dX8_row_37 ?_
          refine r_iload_n (pc := 40) C 1 dX8_row_40 rfl ?_
          obtain ⟨g9, h⟩ := h
          refine r_aldR (pc := 41) C g9 dX8_row_41 ?_
          refine r_iload_n (pc := 42) C 2 dX8_row_42 rfl ?_
          refine r_iload_n (pc := 43) C 3 dX8_row_43 rfl ?_
          have hM := c_X4_begin X (3 + 2 * Int32.toNatClampNeg x1) (kdRow g9) M4 x2 x3 _ h
          refine q_s0 (s1 := List.reverse [.int x2, .int x3] ++ .ref (ad X (3 + 2 * Int32.toNatClampNeg x1)) :: []) rfl ?_
          refine r_callVNv (pc := 44) (k := (3 + 2 * Int32.toNatClampNeg x1)) (As := [.int x2, .int x3]) (st := []) C 2 (bdR (kdRow g9)) (ceR (kdRow g9) _) rfl aw125 aw126 hM nm8 aw127 aw45 yd_X4_begin ⟨rfl, rfl⟩ ⟨Nat.le_of_ble_eq_true rfl, Nat.le_of_ble_eq_true rfl⟩ rfl (Nat.le_of_ble_eq_true rfl) dX8_row_44 (fun M10 h => ?_)
          refine r_aload_n (pc := 47) C 0 dX8_row_47 rfl ?_
          refine r_iload_n (pc := 48) C 3 dX8_row_48 rfl ?_
          have hM := c_X8_unfound X  M10 x3 _ h
          refine q_s0 (s1 := List.reverse [.int x3] ++ .ref (ad X 0) :: []) rfl ?_
          refine r_callVi (pc := 49) (k := 0) (As := [.int x3]) (st := []) C 1 (by decide) (ce0 _) rfl aw134 aw135 hM aw133 aw136 aw2 yd_X8_unfound ⟨rfl, rfl⟩ ⟨Nat.le_of_ble_eq_true rfl, Nat.le_of_ble_eq_true rfl⟩ rfl (Nat.le_of_ble_eq_true rfl) dX8_row_49 (fun r13 M12 h => ?_)
          exact r_iret (pc := 52) C dX8_row_52 h
        · have h := h.2 c8
          refine r_aload_n (pc := 30) C 0 dX8_row_30 rfl ?_
          refine r_iconst (pc := 31) (v := 4) C dX8_row_31 (by decide) ?_
          have hM := c_X8_finding X  M4 4 _ h
          refine q_s0 (s1 := List.reverse [.int 4] ++ .ref (ad X 0) :: []) rfl ?_
          refine r_callVi (pc := 32) (k := 0) (As := [.int 4]) (st := []) C 1 (by decide) (ce0 _) rfl aw120 aw121 hM aw119 aw122 aw2 yd_X8_finding ⟨rfl, rfl⟩ ⟨Nat.le_of_ble_eq_true rfl, Nat.le_of_ble_eq_true rfl⟩ rfl (Nat.le_of_ble_eq_true rfl) dX8_row_32 (fun r15 M14 h => ?_)
          exact r_iret (pc := 35) C dX8_row_35 h
      · have h := h.2 c7
        refine r_ldc (pc := 23) C aw115 dX8_row_23 ?_
        exact r_iret (pc := 25) C dX8_row_25 h
theorem yd_X8_set : yX8_set.cls ≠ "java/lang/invoke/MethodHandle" ∧ yX8_set.cls ≠ "java/lang/invoke/VarHandle" ∧ (parseMethodDescriptor yX8_set.desc).map (fun d => d.parameters.length) = some 3 := by decide +kernel
def w_X8_set  (M : Mem) (x1 : Int32) (x2 : Int32) (x3 : Int32) (Q : Int32 → Mem → Prop) : Prop :=
  w_X8_within  M x1 8 (fun r2 M1 => ((¬ r2 = 0) → (vp_in x1 8 ∧ (w_X4_findingOf (3 + 2 * Int32.toNatClampNeg x1) M1 x2 1 (fun r6 M5 => ((r6 = 0) → (vp_in x1 8 ∧ (w_X4_put (3 + 2 * Int32.toNatClampNeg x1) M5 x2 x3 (fun r10 M9 => w_X8_unfound  M9 r10 (fun r12 M11 => Q r12 M11))))) ∧ ((¬ r6 = 0) → (w_X8_finding  M5 r6 (fun r14 M13 => Q r14 M13))))))) ∧ ((r2 = 0) → (Q (-1000001) M1)))
abbrev rm_X8_set : Room := { frames := 9, cells := 0, slots := 0, locals := 180 }
set_option maxHeartbeats 4000000 in
set_option maxRecDepth 100000 in
theorem c_X8_set (X : Cx)  (M : Mem) (x1 : Int32) (x2 : Int32) (x3 : Int32) (Q : Int32 → Mem → Prop) (h : w_X8_set  M x1 x2 x3 Q) : Ct yX8_set cX8_set 5 (some .int) rm_X8_set X M [.ref (ad X 0), .int x1, .int x2, .int x3] (Qi X Q) := by
  refine ct_of (own := RX8) (lv := [(0, .ref (ad X 0)), (1, .int x1), (2, .int x2), (3, .int x3)]) rfl (by decide) (Nat.le_of_ble_eq_true rfl) rfl ?_
  intro K C
  unfold w_X8_set at h
  refine r_iload_n (pc := 0) C 1 dX8_set_0 rfl ?_
  refine r_bipush (pc := 1) (v := 8) C dX8_set_1 (by decide) ?_
  have hM := c_X8_within X  M x1 8 _ h
  refine q_s0 (s1 := List.reverse [.int x1, .int 8] ++ []) rfl ?_
  refine r_callSi (pc := 3) (As := [.int x1, .int 8]) (st := []) C 2 hM aw116 aw117 aw118 aw2 yd_X8_within ⟨rfl, rfl⟩ ⟨Nat.le_of_ble_eq_true rfl, Nat.le_of_ble_eq_true rfl⟩ rfl (Nat.le_of_ble_eq_true rfl) dX8_set_3 (fun r2 M1 h => ?_)
  refine r_if_ne (pc := 6) (tgt := 12) C dX8_set_6 (by decide) (fun c3 => ?_) (fun c3 => ?_)
  · have h := h.1 c3
    refine r_aload_n (pc := 12) C 0 dX8_set_12 rfl ?_
    refine r_get (pc := 13) (k := 0) (j := 0) (Cn := RX8) (T := TX8) (N := 12) C (by decide) (ce0 _) rfl iaX8 (by decide) aw13 rfl rfl dX8_set_13 ?_
    refine r_iload_n (pc := 16) C 1 dX8_set_16 rfl ?_
    obtain ⟨g4, h⟩ := h
    refine r_aldR (pc := 17) C g4 dX8_set_17 ?_
    refine r_iload_n (pc := 18) C 2 dX8_set_18 rfl ?_
    refine r_iconst (pc := 19) (v := 1) C dX8_set_19 (by decide) ?_
    have hM := c_X4_findingOf X (3 + 2 * Int32.toNatClampNeg x1) (kdRow g4) M1 x2 1 _ h
    refine q_s0 (s1 := List.reverse [.int x2, .int 1] ++ .ref (ad X (3 + 2 * Int32.toNatClampNeg x1)) :: []) rfl ?_
    refine r_callVNi (pc := 20) (k := (3 + 2 * Int32.toNatClampNeg x1)) (As := [.int x2, .int 1]) (st := []) C 2 (bdR (kdRow g4)) (ceR (kdRow g4) _) rfl aw164 aw165 hM nm9 aw166 aw45 yd_X4_findingOf ⟨rfl, rfl⟩ ⟨Nat.le_of_ble_eq_true rfl, Nat.le_of_ble_eq_true rfl⟩ rfl (Nat.le_of_ble_eq_true rfl) dX8_set_20 (fun r6 M5 h => ?_)
    refine r_istore (pc := 23) (lv2 := [(4, .int r6), (0, .ref (ad X 0)), (1, .int x1), (2, .int x2), (3, .int x3)]) C dX8_set_23 (by decide) rfl ?_
    refine r_iload (pc := 25) C 0 dX8_set_25 rfl ?_
    refine r_if_eq (pc := 27) (tgt := 37) C dX8_set_27 (by decide) (fun c7 => ?_) (fun c7 => ?_)
    · have h := h.1 c7
      refine r_aload_n (pc := 37) C 1 dX8_set_37 rfl ?_
      refine r_aload_n (pc := 38) C 1 dX8_set_38 rfl ?_
      refine r_get (pc := 39) (k := 0) (j := 0) (Cn := RX8) (T := TX8) (N := 12) C (by decide) (ce0 _) rfl iaX8 (by decide) aw13 rfl rfl dX8_set_39 ?_
      refine r_iload_n (pc := 42) C 2 dX8_set_42 rfl ?_
      obtain ⟨g8, h⟩ := h
      refine r_aldR (pc := 43) C g8 dX8_set_43 ?_
      refine r_iload_n (pc := 44) C 3 dX8_set_44 rfl ?_
      refine r_iload_n (pc := 45) C 4 dX8_set_45 rfl ?_
      have hM := c_X4_put X (3 + 2 * Int32.toNatClampNeg x1) (kdRow g8) M5 x2 x3 _ h
      refine q_s0 (s1 := List.reverse [.int x2, .int x3] ++ .ref (ad X (3 + 2 * Int32.toNatClampNeg x1)) :: [.ref (ad X 0)]) rfl ?_
      refine r_callVNi (pc := 46) (k := (3 + 2 * Int32.toNatClampNeg x1)) (As := [.int x2, .int x3]) (st := [.ref (ad X 0)]) C 2 (bdR (kdRow g8)) (ceR (kdRow g8) _) rfl aw171 aw172 hM nm10 aw173 aw45 yd_X4_put ⟨rfl, rfl⟩ ⟨Nat.le_of_ble_eq_true rfl, Nat.le_of_ble_eq_true rfl⟩ rfl (Nat.le_of_ble_eq_true rfl) dX8_set_46 (fun r10 M9 h => ?_)
      have hM := c_X8_unfound X  M9 r10 _ h
      refine q_s0 (s1 := List.reverse [.int r10] ++ .ref (ad X 0) :: []) rfl ?_
      refine r_callVi (pc := 49) (k := 0) (As := [.int r10]) (st := []) C 1 (by decide) (ce0 _) rfl aw134 aw135 hM aw133 aw136 aw2 yd_X8_unfound ⟨rfl, rfl⟩ ⟨Nat.le_of_ble_eq_true rfl, Nat.le_of_ble_eq_true rfl⟩ rfl (Nat.le_of_ble_eq_true rfl) dX8_set_49 (fun r12 M11 h => ?_)
      exact r_iret (pc := 52) C dX8_set_52 h
    · have h := h.2 c7
      refine r_aload_n (pc := 30) C 1 dX8_set_30 rfl ?_
      refine r_iload (pc := 31) C 0 dX8_set_31 rfl ?_
      have hM := c_X8_finding X  M5 r6 _ h
      refine q_s0 (s1 := List.reverse [.int r6] ++ .ref (ad X 0) :: []) rfl ?_
      refine r_callVi (pc := 33) (k := 0) (As := [.int r6]) (st := []) C 1 (by decide) (ce0 _) rfl aw120 aw121 hM aw119 aw122 aw2 yd_X8_finding ⟨rfl, rfl⟩ ⟨Nat.le_of_ble_eq_true rfl, Nat.le_of_ble_eq_true rfl⟩ rfl (Nat.le_of_ble_eq_true rfl) dX8_set_33 (fun r14 M13 h => ?_)
      exact r_iret (pc := 36) C dX8_set_36 h
  · have h := h.2 c3
    refine r_ldc (pc := 9) C aw115 dX8_set_9 ?_
    exact r_iret (pc := 11) C dX8_set_11 h
theorem yd_X8_copy : yX8_copy.cls ≠ "java/lang/invoke/MethodHandle" ∧ yX8_copy.cls ≠ "java/lang/invoke/VarHandle" ∧ (parseMethodDescriptor yX8_copy.desc).map (fun d => d.parameters.length) = some 5 := by decide +kernel
def w_X8_copy  (M : Mem) (x1 : Int32) (x2 : Int32) (x3 : Int32) (x4 : Int32) (x5 : Int32) (Q : Int32 → Mem → Prop) : Prop :=
  w_X8_within  M x1 8 (fun r2 M1 => ((r2 = 0) → (Q (-1000001) M1)) ∧ ((¬ r2 = 0) → (w_X8_within  M1 x3 8 (fun r5 M4 => ((¬ r5 = 0) → (vp_in x1 8 ∧ (w_X4_isMissing (3 + 2 * Int32.toNatClampNeg x1) M4  (fun r9 M8 => ((¬ r9 = 0) → (w_X8_finding  M8 1 (fun r12 M11 => Q r12 M11))) ∧ ((r9 = 0) → (vp_in x3 8 ∧ (w_X4_isMissing (3 + 2 * Int32.toNatClampNeg x3) M8  (fun r15 M14 => ((r15 = 0) → (vp_in x1 8 ∧ (vp_in x3 8 ∧ ((((M14 (3 + 2 * Int32.toNatClampNeg x1) 1) = (M14 (3 + 2 * Int32.toNatClampNeg x3) 1)) → (vp_in x1 8 ∧ (w_X4_findingOf (3 + 2 * Int32.toNatClampNeg x1) M14 x2 x5 (fun r22 M21 => ((¬ r22 = 0) → (w_X8_finding  M21 2 (fun r25 M24 => Q r25 M24))) ∧ ((r22 = 0) → (vp_in x3 8 ∧ (w_X4_findingOf (3 + 2 * Int32.toNatClampNeg x3) M21 x4 x5 (fun r28 M27 => ((r28 = 0) → (vp_in x1 8 ∧ (vp_in x3 8 ∧ ((¬ x2 < 0 ∧ ¬ x4 < 0 ∧ ¬ x5 < 0 ∧ Int32.toNatClampNeg x2 + Int32.toNatClampNeg x5 ≤ 40 ∧ Int32.toNatClampNeg x4 + Int32.toNatClampNeg x5 ≤ 40) ∧ (∀ M33 : Mem, M33 = mcp M27 ((3 + 2 * Int32.toNatClampNeg x1) + 1) ((3 + 2 * Int32.toNatClampNeg x3) + 1) (Int32.toNatClampNeg x2) (Int32.toNatClampNeg x4) (Int32.toNatClampNeg x5) → (w_X8_unfound  M33 x5 (fun r35 M34 => Q r35 M34))))))) ∧ ((¬ r28 = 0) → (w_X8_finding  M27 2 (fun r37 M36 => Q r37 M36))))))))))) ∧ ((¬ (M14 (3 + 2 * Int32.toNatClampNeg x1) 1) = (M14 (3 + 2 * Int32.toNatClampNeg x3) 1)) → (w_X8_finding  M14 5 (fun r39 M38 => Q r39 M38))))))) ∧ ((¬ r15 = 0) → (w_X8_finding  M14 1 (fun r41 M40 => Q r41 M40))))))))))) ∧ ((r5 = 0) → (Q (-1000001) M4))))))
abbrev rm_X8_copy : Room := { frames := 9, cells := 0, slots := 0, locals := 180 }
set_option maxHeartbeats 4000000 in
set_option maxRecDepth 100000 in
theorem c_X8_copy (X : Cx)  (M : Mem) (x1 : Int32) (x2 : Int32) (x3 : Int32) (x4 : Int32) (x5 : Int32) (Q : Int32 → Mem → Prop) (h : w_X8_copy  M x1 x2 x3 x4 x5 Q) : Ct yX8_copy cX8_copy 6 (some .int) rm_X8_copy X M [.ref (ad X 0), .int x1, .int x2, .int x3, .int x4, .int x5] (Qi X Q) := by
  refine ct_of (own := RX8) (lv := [(0, .ref (ad X 0)), (1, .int x1), (2, .int x2), (3, .int x3), (4, .int x4), (5, .int x5)]) rfl (by decide) (Nat.le_of_ble_eq_true rfl) rfl ?_
  intro K C
  unfold w_X8_copy at h
  refine r_iload_n (pc := 0) C 1 dX8_copy_0 rfl ?_
  refine r_bipush (pc := 1) (v := 8) C dX8_copy_1 (by decide) ?_
  have hM := c_X8_within X  M x1 8 _ h
  refine q_s0 (s1 := List.reverse [.int x1, .int 8] ++ []) rfl ?_
  refine r_callSi (pc := 3) (As := [.int x1, .int 8]) (st := []) C 2 hM aw116 aw117 aw118 aw2 yd_X8_within ⟨rfl, rfl⟩ ⟨Nat.le_of_ble_eq_true rfl, Nat.le_of_ble_eq_true rfl⟩ rfl (Nat.le_of_ble_eq_true rfl) dX8_copy_3 (fun r2 M1 h => ?_)
  refine r_if_eq (pc := 6) (tgt := 18) C dX8_copy_6 (by decide) (fun c3 => ?_) (fun c3 => ?_)
  · have h := h.1 c3
    refine r_ldc (pc := 18) C aw115 dX8_copy_18 ?_
    exact r_iret (pc := 20) C dX8_copy_20 h
  · have h := h.2 c3
    refine r_iload_n (pc := 9) C 3 dX8_copy_9 rfl ?_
    refine r_bipush (pc := 10) (v := 8) C dX8_copy_10 (by decide) ?_
    have hM := c_X8_within X  M1 x3 8 _ h
    refine q_s0 (s1 := List.reverse [.int x3, .int 8] ++ []) rfl ?_
    refine r_callSi (pc := 12) (As := [.int x3, .int 8]) (st := []) C 2 hM aw116 aw117 aw118 aw2 yd_X8_within ⟨rfl, rfl⟩ ⟨Nat.le_of_ble_eq_true rfl, Nat.le_of_ble_eq_true rfl⟩ rfl (Nat.le_of_ble_eq_true rfl) dX8_copy_12 (fun r5 M4 h => ?_)
    refine r_if_ne (pc := 15) (tgt := 21) C dX8_copy_15 (by decide) (fun c6 => ?_) (fun c6 => ?_)
    · have h := h.1 c6
      refine r_aload_n (pc := 21) C 0 dX8_copy_21 rfl ?_
      refine r_get (pc := 22) (k := 0) (j := 0) (Cn := RX8) (T := TX8) (N := 12) C (by decide) (ce0 _) rfl iaX8 (by decide) aw13 rfl rfl dX8_copy_22 ?_
      refine r_iload_n (pc := 25) C 1 dX8_copy_25 rfl ?_
      obtain ⟨g7, h⟩ := h
      refine r_aldR (pc := 26) C g7 dX8_copy_26 ?_
      have hM := c_X4_isMissing X (3 + 2 * Int32.toNatClampNeg x1) (kdRow g7) M4  _ h
      refine q_s0 (s1 := List.reverse [] ++ .ref (ad X (3 + 2 * Int32.toNatClampNeg x1)) :: []) rfl ?_
      refine r_callVNi (pc := 27) (k := (3 + 2 * Int32.toNatClampNeg x1)) (As := []) (st := []) C 0 (bdR (kdRow g7)) (ceR (kdRow g7) _) rfl aw168 aw169 hM nm11 aw170 aw45 yd_X4_isMissing ⟨rfl, rfl⟩ ⟨Nat.le_of_ble_eq_true rfl, Nat.le_of_ble_eq_true rfl⟩ rfl (Nat.le_of_ble_eq_true rfl) dX8_copy_27 (fun r9 M8 h => ?_)
      refine r_if_ne (pc := 30) (tgt := 45) C dX8_copy_30 (by decide) (fun c10 => ?_) (fun c10 => ?_)
      · have h := h.1 c10
        refine r_aload_n (pc := 45) C 0 dX8_copy_45 rfl ?_
        refine r_iconst (pc := 46) (v := 1) C dX8_copy_46 (by decide) ?_
        have hM := c_X8_finding X  M8 1 _ h
        refine q_s0 (s1 := List.reverse [.int 1] ++ .ref (ad X 0) :: []) rfl ?_
        refine r_callVi (pc := 47) (k := 0) (As := [.int 1]) (st := []) C 1 (by decide) (ce0 _) rfl aw120 aw121 hM aw119 aw122 aw2 yd_X8_finding ⟨rfl, rfl⟩ ⟨Nat.le_of_ble_eq_true rfl, Nat.le_of_ble_eq_true rfl⟩ rfl (Nat.le_of_ble_eq_true rfl) dX8_copy_47 (fun r12 M11 h => ?_)
        exact r_iret (pc := 50) C dX8_copy_50 h
      · have h := h.2 c10
        refine r_aload_n (pc := 33) C 0 dX8_copy_33 rfl ?_
        refine r_get (pc := 34) (k := 0) (j := 0) (Cn := RX8) (T := TX8) (N := 12) C (by decide) (ce0 _) rfl iaX8 (by decide) aw13 rfl rfl dX8_copy_34 ?_
        refine r_iload_n (pc := 37) C 3 dX8_copy_37 rfl ?_
        obtain ⟨g13, h⟩ := h
        refine r_aldR (pc := 38) C g13 dX8_copy_38 ?_
        have hM := c_X4_isMissing X (3 + 2 * Int32.toNatClampNeg x3) (kdRow g13) M8  _ h
        refine q_s0 (s1 := List.reverse [] ++ .ref (ad X (3 + 2 * Int32.toNatClampNeg x3)) :: []) rfl ?_
        refine r_callVNi (pc := 39) (k := (3 + 2 * Int32.toNatClampNeg x3)) (As := []) (st := []) C 0 (bdR (kdRow g13)) (ceR (kdRow g13) _) rfl aw168 aw169 hM nm11 aw170 aw45 yd_X4_isMissing ⟨rfl, rfl⟩ ⟨Nat.le_of_ble_eq_true rfl, Nat.le_of_ble_eq_true rfl⟩ rfl (Nat.le_of_ble_eq_true rfl) dX8_copy_39 (fun r15 M14 h => ?_)
        refine r_if_eq (pc := 42) (tgt := 51) C dX8_copy_42 (by decide) (fun c16 => ?_) (fun c16 => ?_)
        · have h := h.1 c16
          refine r_aload_n (pc := 51) C 0 dX8_copy_51 rfl ?_
          refine r_get (pc := 52) (k := 0) (j := 0) (Cn := RX8) (T := TX8) (N := 12) C (by decide) (ce0 _) rfl iaX8 (by decide) aw13 rfl rfl dX8_copy_52 ?_
          refine r_iload_n (pc := 55) C 1 dX8_copy_55 rfl ?_
          obtain ⟨g17, h⟩ := h
          refine r_aldR (pc := 56) C g17 dX8_copy_56 ?_
          refine r_getN (pc := 57) (k := (3 + 2 * Int32.toNatClampNeg x1)) (j := 1) (Cn := RX4) (T := TX4) (N := 3) C (bdR (kdRow g17)) (ceR (kdRow g17) _) rfl iaX4 (by decide) nf45 rfl rfl dX8_copy_57 ?_
          refine r_aload_n (pc := 60) C 0 dX8_copy_60 rfl ?_
          refine r_get (pc := 61) (k := 0) (j := 0) (Cn := RX8) (T := TX8) (N := 12) C (by decide) (ce0 _) rfl iaX8 (by decide) aw13 rfl rfl dX8_copy_61 ?_
          refine r_iload_n (pc := 64) C 3 dX8_copy_64 rfl ?_
          obtain ⟨g18, h⟩ := h
          refine r_aldR (pc := 65) C g18 dX8_copy_65 ?_
          refine r_getN (pc := 66) (k := (3 + 2 * Int32.toNatClampNeg x3)) (j := 1) (Cn := RX4) (T := TX4) (N := 3) C (bdR (kdRow g18)) (ceR (kdRow g18) _) rfl iaX4 (by decide) nf45 rfl rfl dX8_copy_66 ?_
          refine r_icmp_eq (pc := 69) (tgt := 78) C dX8_copy_69 (by decide) (fun c19 => ?_) (fun c19 => ?_)
          · have h := h.1 c19
            refine r_aload_n (pc := 78) C 0 dX8_copy_78 rfl ?_
            refine r_get (pc := 79) (k := 0) (j := 0) (Cn := RX8) (T := TX8) (N := 12) C (by decide) (ce0 _) rfl iaX8 (by decide) aw13 rfl rfl dX8_copy_79 ?_
            refine r_iload_n (pc := 82) C 1 dX8_copy_82 rfl ?_
            obtain ⟨g20, h⟩ := h
            refine r_aldR (pc := 83) C g20 dX8_copy_83 ?_
            refine r_iload_n (pc := 84) C 2 dX8_copy_84 rfl ?_
            refine r_iload (pc := 85) C 5 dX8_copy_85 rfl ?_
            have hM := c_X4_findingOf X (3 + 2 * Int32.toNatClampNeg x1) (kdRow g20) M14 x2 x5 _ h
            refine q_s0 (s1 := List.reverse [.int x2, .int x5] ++ .ref (ad X (3 + 2 * Int32.toNatClampNeg x1)) :: []) rfl ?_
            refine r_callVNi (pc := 87) (k := (3 + 2 * Int32.toNatClampNeg x1)) (As := [.int x2, .int x5]) (st := []) C 2 (bdR (kdRow g20)) (ceR (kdRow g20) _) rfl aw164 aw165 hM nm9 aw166 aw45 yd_X4_findingOf ⟨rfl, rfl⟩ ⟨Nat.le_of_ble_eq_true rfl, Nat.le_of_ble_eq_true rfl⟩ rfl (Nat.le_of_ble_eq_true rfl) dX8_copy_87 (fun r22 M21 h => ?_)
            refine r_if_ne (pc := 90) (tgt := 109) C dX8_copy_90 (by decide) (fun c23 => ?_) (fun c23 => ?_)
            · have h := h.1 c23
              refine r_aload_n (pc := 109) C 0 dX8_copy_109 rfl ?_
              refine r_iconst (pc := 110) (v := 2) C dX8_copy_110 (by decide) ?_
              have hM := c_X8_finding X  M21 2 _ h
              refine q_s0 (s1 := List.reverse [.int 2] ++ .ref (ad X 0) :: []) rfl ?_
              refine r_callVi (pc := 111) (k := 0) (As := [.int 2]) (st := []) C 1 (by decide) (ce0 _) rfl aw120 aw121 hM aw119 aw122 aw2 yd_X8_finding ⟨rfl, rfl⟩ ⟨Nat.le_of_ble_eq_true rfl, Nat.le_of_ble_eq_true rfl⟩ rfl (Nat.le_of_ble_eq_true rfl) dX8_copy_111 (fun r25 M24 h => ?_)
              exact r_iret (pc := 114) C dX8_copy_114 h
            · have h := h.2 c23
              refine r_aload_n (pc := 93) C 0 dX8_copy_93 rfl ?_
              refine r_get (pc := 94) (k := 0) (j := 0) (Cn := RX8) (T := TX8) (N := 12) C (by decide) (ce0 _) rfl iaX8 (by decide) aw13 rfl rfl dX8_copy_94 ?_
              refine r_iload_n (pc := 97) C 3 dX8_copy_97 rfl ?_
              obtain ⟨g26, h⟩ := h
              refine r_aldR (pc := 98) C g26 dX8_copy_98 ?_
              refine r_iload (pc := 99) C 4 dX8_copy_99 rfl ?_
              refine r_iload (pc := 101) C 5 dX8_copy_101 rfl ?_
              have hM := c_X4_findingOf X (3 + 2 * Int32.toNatClampNeg x3) (kdRow g26) M21 x4 x5 _ h
              refine q_s0 (s1 := List.reverse [.int x4, .int x5] ++ .ref (ad X (3 + 2 * Int32.toNatClampNeg x3)) :: []) rfl ?_
              refine r_callVNi (pc := 103) (k := (3 + 2 * Int32.toNatClampNeg x3)) (As := [.int x4, .int x5]) (st := []) C 2 (bdR (kdRow g26)) (ceR (kdRow g26) _) rfl aw164 aw165 hM nm9 aw166 aw45 yd_X4_findingOf ⟨rfl, rfl⟩ ⟨Nat.le_of_ble_eq_true rfl, Nat.le_of_ble_eq_true rfl⟩ rfl (Nat.le_of_ble_eq_true rfl) dX8_copy_103 (fun r28 M27 h => ?_)
              refine r_if_eq (pc := 106) (tgt := 115) C dX8_copy_106 (by decide) (fun c29 => ?_) (fun c29 => ?_)
              · have h := h.1 c29
                refine r_aload_n (pc := 115) C 0 dX8_copy_115 rfl ?_
                refine r_get (pc := 116) (k := 0) (j := 0) (Cn := RX8) (T := TX8) (N := 12) C (by decide) (ce0 _) rfl iaX8 (by decide) aw13 rfl rfl dX8_copy_116 ?_
                refine r_iload_n (pc := 119) C 1 dX8_copy_119 rfl ?_
                obtain ⟨g30, h⟩ := h
                refine r_aldR (pc := 120) C g30 dX8_copy_120 ?_
                refine r_getN (pc := 121) (k := (3 + 2 * Int32.toNatClampNeg x1)) (j := 0) (Cn := RX4) (T := TX4) (N := 3) C (bdR (kdRow g30)) (ceR (kdRow g30) _) rfl iaX4 (by decide) nf44 rfl rfl dX8_copy_121 ?_
                refine r_iload_n (pc := 124) C 2 dX8_copy_124 rfl ?_
                refine r_aload_n (pc := 125) C 0 dX8_copy_125 rfl ?_
                refine r_get (pc := 126) (k := 0) (j := 0) (Cn := RX8) (T := TX8) (N := 12) C (by decide) (ce0 _) rfl iaX8 (by decide) aw13 rfl rfl dX8_copy_126 ?_
                refine r_iload_n (pc := 129) C 3 dX8_copy_129 rfl ?_
                obtain ⟨g31, h⟩ := h
                refine r_aldR (pc := 130) C g31 dX8_copy_130 ?_
                refine r_getN (pc := 131) (k := (3 + 2 * Int32.toNatClampNeg x3)) (j := 0) (Cn := RX4) (T := TX4) (N := 3) C (bdR (kdRow g31)) (ceR (kdRow g31) _) rfl iaX4 (by decide) nf44 rfl rfl dX8_copy_131 ?_
                refine r_iload (pc := 134) C 4 dX8_copy_134 rfl ?_
                refine r_iload (pc := 136) C 5 dX8_copy_136 rfl ?_
                obtain ⟨g32, h⟩ := h
                refine q_copy (a := (Int32.toNatClampNeg x2)) (b := (Int32.toNatClampNeg x4)) (n2 := (Int32.toNatClampNeg x5)) rfl rfl rfl (pc := 138) (k0 := ((3 + 2 * Int32.toNatClampNeg x1) + 1)) (k1 := ((3 + 2 * Int32.toNatClampNeg x3) + 1)) (n0 := 40) (n1 := 40) C (bdR1 (kdRow g30)) (bdR1 (kdRow g31)) (ceR1 (kdRow g30) _) (ceR1 (kdRow g31)) aw185 g32 (Nat.le_of_ble_eq_true rfl) (Nat.le_of_ble_eq_true rfl) dX8_copy_138 ?_
                refine r_topM (fun M33 eM33 => ?_)
                replace h := h M33 eM33
                refine r_aload_n (pc := 141) C 0 dX8_copy_141 rfl ?_
                refine r_iload (pc := 142) C 5 dX8_copy_142 rfl ?_
                have hM := c_X8_unfound X  M33 x5 _ h
                refine q_s0 (s1 := List.reverse [.int x5] ++ .ref (ad X 0) :: []) rfl ?_
                refine r_callVi (pc := 144) (k := 0) (As := [.int x5]) (st := []) C 1 (by decide) (ce0 _) rfl aw134 aw135 hM aw133 aw136 aw2 yd_X8_unfound ⟨rfl, rfl⟩ ⟨Nat.le_of_ble_eq_true rfl, Nat.le_of_ble_eq_true rfl⟩ rfl (Nat.le_of_ble_eq_true rfl) dX8_copy_144 (fun r35 M34 h => ?_)
                exact r_iret (pc := 147) C dX8_copy_147 h
              · have h := h.2 c29
                refine r_aload_n (pc := 109) C 0 dX8_copy_109 rfl ?_
                refine r_iconst (pc := 110) (v := 2) C dX8_copy_110 (by decide) ?_
                have hM := c_X8_finding X  M27 2 _ h
                refine q_s0 (s1 := List.reverse [.int 2] ++ .ref (ad X 0) :: []) rfl ?_
                refine r_callVi (pc := 111) (k := 0) (As := [.int 2]) (st := []) C 1 (by decide) (ce0 _) rfl aw120 aw121 hM aw119 aw122 aw2 yd_X8_finding ⟨rfl, rfl⟩ ⟨Nat.le_of_ble_eq_true rfl, Nat.le_of_ble_eq_true rfl⟩ rfl (Nat.le_of_ble_eq_true rfl) dX8_copy_111 (fun r37 M36 h => ?_)
                exact r_iret (pc := 114) C dX8_copy_114 h
          · have h := h.2 c19
            refine r_aload_n (pc := 72) C 0 dX8_copy_72 rfl ?_
            refine r_iconst (pc := 73) (v := 5) C dX8_copy_73 (by decide) ?_
            have hM := c_X8_finding X  M14 5 _ h
            refine q_s0 (s1 := List.reverse [.int 5] ++ .ref (ad X 0) :: []) rfl ?_
            refine r_callVi (pc := 74) (k := 0) (As := [.int 5]) (st := []) C 1 (by decide) (ce0 _) rfl aw120 aw121 hM aw119 aw122 aw2 yd_X8_finding ⟨rfl, rfl⟩ ⟨Nat.le_of_ble_eq_true rfl, Nat.le_of_ble_eq_true rfl⟩ rfl (Nat.le_of_ble_eq_true rfl) dX8_copy_74 (fun r39 M38 h => ?_)
            exact r_iret (pc := 77) C dX8_copy_77 h
        · have h := h.2 c16
          refine r_aload_n (pc := 45) C 0 dX8_copy_45 rfl ?_
          refine r_iconst (pc := 46) (v := 1) C dX8_copy_46 (by decide) ?_
          have hM := c_X8_finding X  M14 1 _ h
          refine q_s0 (s1 := List.reverse [.int 1] ++ .ref (ad X 0) :: []) rfl ?_
          refine r_callVi (pc := 47) (k := 0) (As := [.int 1]) (st := []) C 1 (by decide) (ce0 _) rfl aw120 aw121 hM aw119 aw122 aw2 yd_X8_finding ⟨rfl, rfl⟩ ⟨Nat.le_of_ble_eq_true rfl, Nat.le_of_ble_eq_true rfl⟩ rfl (Nat.le_of_ble_eq_true rfl) dX8_copy_47 (fun r41 M40 h => ?_)
          exact r_iret (pc := 50) C dX8_copy_50 h
    · have h := h.2 c6
      refine r_ldc (pc := 18) C aw115 dX8_copy_18 ?_
      exact r_iret (pc := 20) C dX8_copy_20 h
theorem yd_X8_drop : yX8_drop.cls ≠ "java/lang/invoke/MethodHandle" ∧ yX8_drop.cls ≠ "java/lang/invoke/VarHandle" ∧ (parseMethodDescriptor yX8_drop.desc).map (fun d => d.parameters.length) = some 1 := by decide +kernel
def w_X8_drop  (M : Mem) (x1 : Int32) (Q : Int32 → Mem → Prop) : Prop :=
  w_X8_within  M x1 8 (fun r2 M1 => ((¬ r2 = 0) → (vp_in x1 8 ∧ (w_X4_isMissing (3 + 2 * Int32.toNatClampNeg x1) M1  (fun r6 M5 => ((r6 = 0) → (vp_in x1 8 ∧ (w_X4_end (3 + 2 * Int32.toNatClampNeg x1) M5  (fun r10 M9 => w_X8_unfound  M9 r10 (fun r12 M11 => Q r12 M11))))) ∧ ((¬ r6 = 0) → (w_X8_finding  M5 1 (fun r14 M13 => Q r14 M13))))))) ∧ ((r2 = 0) → (Q (-1000001) M1)))
abbrev rm_X8_drop : Room := { frames := 6, cells := 0, slots := 0, locals := 120 }
set_option maxHeartbeats 4000000 in
set_option maxRecDepth 100000 in
theorem c_X8_drop (X : Cx)  (M : Mem) (x1 : Int32) (Q : Int32 → Mem → Prop) (h : w_X8_drop  M x1 Q) : Ct yX8_drop cX8_drop 2 (some .int) rm_X8_drop X M [.ref (ad X 0), .int x1] (Qi X Q) := by
  refine ct_of (own := RX8) (lv := [(0, .ref (ad X 0)), (1, .int x1)]) rfl (by decide) (Nat.le_of_ble_eq_true rfl) rfl ?_
  intro K C
  unfold w_X8_drop at h
  refine r_iload_n (pc := 0) C 1 dX8_drop_0 rfl ?_
  refine r_bipush (pc := 1) (v := 8) C dX8_drop_1 (by decide) ?_
  have hM := c_X8_within X  M x1 8 _ h
  refine q_s0 (s1 := List.reverse [.int x1, .int 8] ++ []) rfl ?_
  refine r_callSi (pc := 3) (As := [.int x1, .int 8]) (st := []) C 2 hM aw116 aw117 aw118 aw2 yd_X8_within ⟨rfl, rfl⟩ ⟨Nat.le_of_ble_eq_true rfl, Nat.le_of_ble_eq_true rfl⟩ rfl (Nat.le_of_ble_eq_true rfl) dX8_drop_3 (fun r2 M1 h => ?_)
  refine r_if_ne (pc := 6) (tgt := 12) C dX8_drop_6 (by decide) (fun c3 => ?_) (fun c3 => ?_)
  · have h := h.1 c3
    refine r_aload_n (pc := 12) C 0 dX8_drop_12 rfl ?_
    refine r_get (pc := 13) (k := 0) (j := 0) (Cn := RX8) (T := TX8) (N := 12) C (by decide) (ce0 _) rfl iaX8 (by decide) aw13 rfl rfl dX8_drop_13 ?_
    refine r_iload_n (pc := 16) C 1 dX8_drop_16 rfl ?_
    obtain ⟨g4, h⟩ := h
    refine r_aldR (pc := 17) C g4 dX8_drop_17 ?_
    have hM := c_X4_isMissing X (3 + 2 * Int32.toNatClampNeg x1) (kdRow g4) M1  _ h
    refine q_s0 (s1 := List.reverse [] ++ .ref (ad X (3 + 2 * Int32.toNatClampNeg x1)) :: []) rfl ?_
    refine r_callVNi (pc := 18) (k := (3 + 2 * Int32.toNatClampNeg x1)) (As := []) (st := []) C 0 (bdR (kdRow g4)) (ceR (kdRow g4) _) rfl aw168 aw169 hM nm11 aw170 aw45 yd_X4_isMissing ⟨rfl, rfl⟩ ⟨Nat.le_of_ble_eq_true rfl, Nat.le_of_ble_eq_true rfl⟩ rfl (Nat.le_of_ble_eq_true rfl) dX8_drop_18 (fun r6 M5 h => ?_)
    refine r_if_eq (pc := 21) (tgt := 30) C dX8_drop_21 (by decide) (fun c7 => ?_) (fun c7 => ?_)
    · have h := h.1 c7
      refine r_aload_n (pc := 30) C 0 dX8_drop_30 rfl ?_
      refine r_aload_n (pc := 31) C 0 dX8_drop_31 rfl ?_
      refine r_get (pc := 32) (k := 0) (j := 0) (Cn := RX8) (T := TX8) (N := 12) C (by decide) (ce0 _) rfl iaX8 (by decide) aw13 rfl rfl dX8_drop_32 ?_
      refine r_iload_n (pc := 35) C 1 dX8_drop_35 rfl ?_
      obtain ⟨g8, h⟩ := h
      refine r_aldR (pc := 36) C g8 dX8_drop_36 ?_
      have hM := c_X4_end X (3 + 2 * Int32.toNatClampNeg x1) (kdRow g8) M5  _ h
      refine q_s0 (s1 := List.reverse [] ++ .ref (ad X (3 + 2 * Int32.toNatClampNeg x1)) :: [.ref (ad X 0)]) rfl ?_
      refine r_callVNi (pc := 37) (k := (3 + 2 * Int32.toNatClampNeg x1)) (As := []) (st := [.ref (ad X 0)]) C 0 (bdR (kdRow g8)) (ceR (kdRow g8) _) rfl aw201 aw202 hM nm12 aw203 aw45 yd_X4_end ⟨rfl, rfl⟩ ⟨Nat.le_of_ble_eq_true rfl, Nat.le_of_ble_eq_true rfl⟩ rfl (Nat.le_of_ble_eq_true rfl) dX8_drop_37 (fun r10 M9 h => ?_)
      have hM := c_X8_unfound X  M9 r10 _ h
      refine q_s0 (s1 := List.reverse [.int r10] ++ .ref (ad X 0) :: []) rfl ?_
      refine r_callVi (pc := 40) (k := 0) (As := [.int r10]) (st := []) C 1 (by decide) (ce0 _) rfl aw134 aw135 hM aw133 aw136 aw2 yd_X8_unfound ⟨rfl, rfl⟩ ⟨Nat.le_of_ble_eq_true rfl, Nat.le_of_ble_eq_true rfl⟩ rfl (Nat.le_of_ble_eq_true rfl) dX8_drop_40 (fun r12 M11 h => ?_)
      exact r_iret (pc := 43) C dX8_drop_43 h
    · have h := h.2 c7
      refine r_aload_n (pc := 24) C 0 dX8_drop_24 rfl ?_
      refine r_iconst (pc := 25) (v := 1) C dX8_drop_25 (by decide) ?_
      have hM := c_X8_finding X  M5 1 _ h
      refine q_s0 (s1 := List.reverse [.int 1] ++ .ref (ad X 0) :: []) rfl ?_
      refine r_callVi (pc := 26) (k := 0) (As := [.int 1]) (st := []) C 1 (by decide) (ce0 _) rfl aw120 aw121 hM aw119 aw122 aw2 yd_X8_finding ⟨rfl, rfl⟩ ⟨Nat.le_of_ble_eq_true rfl, Nat.le_of_ble_eq_true rfl⟩ rfl (Nat.le_of_ble_eq_true rfl) dX8_drop_26 (fun r14 M13 h => ?_)
      exact r_iret (pc := 29) C dX8_drop_29 h
  · have h := h.2 c3
    refine r_ldc (pc := 9) C aw115 dX8_drop_9 ?_
    exact r_iret (pc := 11) C dX8_drop_11 h
theorem yd_X8_feed : yX8_feed.cls ≠ "java/lang/invoke/MethodHandle" ∧ yX8_feed.cls ≠ "java/lang/invoke/VarHandle" ∧ (parseMethodDescriptor yX8_feed.desc).map (fun d => d.parameters.length) = some 1 := by decide +kernel
def w_X8_feed  (M : Mem) (x1 : Int32) (Q : Int32 → Mem → Prop) : Prop :=
  w_X8_within  M x1 256 (fun r2 M1 => ((¬ r2 = 0) → (((¬ (M1 19 1) = 120) → (w_X3_take  M1 x1 (fun r6 M5 => Q r6 M5))) ∧ (((M1 19 1) = 120) → (Q (-1000003) M1)))) ∧ ((r2 = 0) → (Q (-1000001) M1)))
abbrev rm_X8_feed : Room := { frames := 6, cells := 0, slots := 0, locals := 120 }
set_option maxHeartbeats 4000000 in
set_option maxRecDepth 100000 in
theorem c_X8_feed (X : Cx)  (M : Mem) (x1 : Int32) (Q : Int32 → Mem → Prop) (h : w_X8_feed  M x1 Q) : Ct yX8_feed cX8_feed 2 (some .int) rm_X8_feed X M [.ref (ad X 0), .int x1] (Qi X Q) := by
  refine ct_of (own := RX8) (lv := [(0, .ref (ad X 0)), (1, .int x1)]) rfl (by decide) (Nat.le_of_ble_eq_true rfl) rfl ?_
  intro K C
  unfold w_X8_feed at h
  refine r_iload_n (pc := 0) C 1 dX8_feed_0 rfl ?_
  refine r_sipush (pc := 1) (v := 256) C dX8_feed_1 (by decide) ?_
  have hM := c_X8_within X  M x1 256 _ h
  refine q_s0 (s1 := List.reverse [.int x1, .int 256] ++ []) rfl ?_
  refine r_callSi (pc := 4) (As := [.int x1, .int 256]) (st := []) C 2 hM aw116 aw117 aw118 aw2 yd_X8_within ⟨rfl, rfl⟩ ⟨Nat.le_of_ble_eq_true rfl, Nat.le_of_ble_eq_true rfl⟩ rfl (Nat.le_of_ble_eq_true rfl) dX8_feed_4 (fun r2 M1 h => ?_)
  refine r_if_ne (pc := 7) (tgt := 13) C dX8_feed_7 (by decide) (fun c3 => ?_) (fun c3 => ?_)
  · have h := h.1 c3
    refine r_aload_n (pc := 13) C 0 dX8_feed_13 rfl ?_
    refine r_get (pc := 14) (k := 0) (j := 1) (Cn := RX8) (T := TX8) (N := 12) C (by decide) (ce0 _) rfl iaX8 (by decide) aw17 rfl rfl dX8_feed_14 ?_
    refine r_getN (pc := 17) (k := 19) (j := 1) (Cn := RX3) (T := TX3) (N := 6) C (by decide) (ce19 _) rfl iaX3 (by decide) nf0 rfl rfl dX8_feed_17 ?_
    refine r_bipush (pc := 20) (v := 120) C dX8_feed_20 (by decide) ?_
    refine r_icmp_ne (pc := 22) (tgt := 28) C dX8_feed_22 (by decide) (fun c4 => ?_) (fun c4 => ?_)
    · have h := h.1 c4
      refine r_aload_n (pc := 28) C 0 dX8_feed_28 rfl ?_
      refine r_get (pc := 29) (k := 0) (j := 1) (Cn := RX8) (T := TX8) (N := 12) C (by decide) (ce0 _) rfl iaX8 (by decide) aw17 rfl rfl dX8_feed_29 ?_
      refine r_iload_n (pc := 32) C 1 dX8_feed_32 rfl ?_
      have hM := c_X3_take X  M1 x1 _ h
      refine q_s0 (s1 := List.reverse [.int x1] ++ .ref (ad X 19) :: []) rfl ?_
      refine r_callVNi (pc := 33) (k := 19) (As := [.int x1]) (st := []) C 1 (by decide) (ce19 _) rfl aw213 aw214 hM nm13 aw215 aw16 yd_X3_take ⟨rfl, rfl⟩ ⟨Nat.le_of_ble_eq_true rfl, Nat.le_of_ble_eq_true rfl⟩ rfl (Nat.le_of_ble_eq_true rfl) dX8_feed_33 (fun r6 M5 h => ?_)
      exact r_iret (pc := 36) C dX8_feed_36 h
    · have h := h.2 c4
      refine r_ldc (pc := 25) C aw212 dX8_feed_25 ?_
      exact r_iret (pc := 27) C dX8_feed_27 h
  · have h := h.2 c3
    refine r_ldc (pc := 10) C aw115 dX8_feed_10 ?_
    exact r_iret (pc := 12) C dX8_feed_12 h
theorem yd_X8_town : yX8_town.cls ≠ "java/lang/invoke/MethodHandle" ∧ yX8_town.cls ≠ "java/lang/invoke/VarHandle" ∧ (parseMethodDescriptor yX8_town.desc).map (fun d => d.parameters.length) = some 0 := by decide +kernel
def w_X8_town  (M : Mem)  (Q : Int32 → Mem → Prop) : Prop :=
  w_X3_readInto 52 M  (fun r2 M1 => ∀ M3 : Mem, M3 = ms M1 19 1 0 → (((¬ r2 = 0) → (w_X6_become 41 52 M3  (fun M5 => w_X0_forget  M5  (fun M7 => Q (M7 41 3) M7)))) ∧ ((r2 = 0) → (∀ v9 : Int32, v9 = (M3 19 3) → (∀ M10 : Mem, M10 = ms M3 0 10 v9 → (Q ((-1000100) - (M10 19 2)) M10))))))
abbrev rm_X8_town : Room := { frames := 21, cells := 0, slots := 0, locals := 420 }
set_option maxHeartbeats 4000000 in
set_option maxRecDepth 100000 in
theorem c_X8_town (X : Cx)  (M : Mem)  (Q : Int32 → Mem → Prop) (h : w_X8_town  M  Q) : Ct yX8_town cX8_town 2 (some .int) rm_X8_town X M [.ref (ad X 0)] (Qi X Q) := by
  refine ct_of (own := RX8) (lv := [(0, .ref (ad X 0))]) rfl (by decide) (Nat.le_of_ble_eq_true rfl) rfl ?_
  intro K C
  unfold w_X8_town at h
  refine r_aload_n (pc := 0) C 0 dX8_town_0 rfl ?_
  refine r_get (pc := 1) (k := 0) (j := 1) (Cn := RX8) (T := TX8) (N := 12) C (by decide) (ce0 _) rfl iaX8 (by decide) aw17 rfl rfl dX8_town_1 ?_
  refine r_aload_n (pc := 4) C 0 dX8_town_4 rfl ?_
  refine r_get (pc := 5) (k := 0) (j := 5) (Cn := RX8) (T := TX8) (N := 12) C (by decide) (ce0 _) rfl iaX8 (by decide) aw30 rfl rfl dX8_town_5 ?_
  have hM := c_X3_readInto X 52 (show kd 52 = 6 from rfl) M  _ h
  refine q_s0 (s1 := List.reverse [.ref (ad X 52)] ++ .ref (ad X 19) :: []) rfl ?_
  refine r_callVNi (pc := 8) (k := 19) (As := [.ref (ad X 52)]) (st := []) C 1 (by decide) (ce19 _) rfl aw230 aw231 hM nm14 aw232 aw16 yd_X3_readInto ⟨rfl, rfl⟩ ⟨Nat.le_of_ble_eq_true rfl, Nat.le_of_ble_eq_true rfl⟩ rfl (Nat.le_of_ble_eq_true rfl) dX8_town_8 (fun r2 M1 h => ?_)
  refine r_istore_n (pc := 11) (lv2 := [(1, .int r2), (0, .ref (ad X 0))]) C dX8_town_11 (by decide) rfl ?_
  refine r_aload_n (pc := 12) C 1 dX8_town_12 rfl ?_
  refine r_get (pc := 13) (k := 0) (j := 1) (Cn := RX8) (T := TX8) (N := 12) C (by decide) (ce0 _) rfl iaX8 (by decide) aw17 rfl rfl dX8_town_13 ?_
  refine r_iconst (pc := 16) (v := 0) C dX8_town_16 (by decide) ?_
  refine r_putN (pc := 17) (k := 19) (j := 1) (Cn := RX3) (T := TX3) (N := 6) C (by decide) (ce19 _) rfl iaX3 (by decide) (ce19 _) tyX3_ok nmX3 nf0 rfl rfl (tyX3_ok 1 (by decide)) (Nat.le_of_ble_eq_true rfl) dX8_town_17 ?_
  refine r_topM (fun M3 eM3 => ?_)
  replace h := h M3 eM3
  refine r_iload_n (pc := 20) C 0 dX8_town_20 rfl ?_
  refine r_if_ne (pc := 21) (tgt := 46) C dX8_town_21 (by decide) (fun c4 => ?_) (fun c4 => ?_)
  · have h := h.1 c4
    refine r_aload_n (pc := 46) C 1 dX8_town_46 rfl ?_
    refine r_get (pc := 47) (k := 0) (j := 4) (Cn := RX8) (T := TX8) (N := 12) C (by decide) (ce0 _) rfl iaX8 (by decide) aw29 rfl rfl dX8_town_47 ?_
    refine r_aload_n (pc := 50) C 1 dX8_town_50 rfl ?_
    refine r_get (pc := 51) (k := 0) (j := 5) (Cn := RX8) (T := TX8) (N := 12) C (by decide) (ce0 _) rfl iaX8 (by decide) aw30 rfl rfl dX8_town_51 ?_
    have hM := c_X6_become X 41 (show kd 41 = 6 from rfl) 52 (show kd 52 = 6 from rfl) M3  _ h
    refine q_s0 (s1 := List.reverse [.ref (ad X 52)] ++ .ref (ad X 41) :: []) rfl ?_
    refine r_callVNv (pc := 54) (k := 41) (As := [.ref (ad X 52)]) (st := []) C 1 (bdT (show kd 41 = 6 from rfl)) (ceT (show kd 41 = 6 from rfl) _) rfl aw309 aw310 hM nm21 aw311 aw28 yd_X6_become ⟨rfl, rfl⟩ ⟨Nat.le_of_ble_eq_true rfl, Nat.le_of_ble_eq_true rfl⟩ rfl (Nat.le_of_ble_eq_true rfl) dX8_town_54 (fun M5 h => ?_)
    refine r_aload_n (pc := 57) C 1 dX8_town_57 rfl ?_
    refine r_get (pc := 58) (k := 0) (j := 2) (Cn := RX8) (T := TX8) (N := 12) C (by decide) (ce0 _) rfl iaX8 (by decide) aw21 rfl rfl dX8_town_58 ?_
    have hM := c_X0_forget X  M5  _ h
    refine q_s0 (s1 := List.reverse [] ++ .ref (ad X 21) :: []) rfl ?_
    refine r_callVNv (pc := 61) (k := 21) (As := []) (st := []) C 0 (by decide) (ce21 _) rfl aw313 aw314 hM nm22 aw315 aw20 yd_X0_forget ⟨rfl, rfl⟩ ⟨Nat.le_of_ble_eq_true rfl, Nat.le_of_ble_eq_true rfl⟩ rfl (Nat.le_of_ble_eq_true rfl) dX8_town_61 (fun M7 h => ?_)
    refine r_aload_n (pc := 64) C 1 dX8_town_64 rfl ?_
    refine r_get (pc := 65) (k := 0) (j := 4) (Cn := RX8) (T := TX8) (N := 12) C (by decide) (ce0 _) rfl iaX8 (by decide) aw29 rfl rfl dX8_town_65 ?_
    refine r_getN (pc := 68) (k := 41) (j := 3) (Cn := RX6) (T := TX6) (N := 16) C (bdT (show kd 41 = 6 from rfl)) (ceT (show kd 41 = 6 from rfl) _) rfl iaX6 (by decide) nf15 rfl rfl dX8_town_68 ?_
    exact r_iret (pc := 71) C dX8_town_71 h
  · have h := h.2 c4
    refine r_aload_n (pc := 24) C 1 dX8_town_24 rfl ?_
    refine r_aload_n (pc := 25) C 1 dX8_town_25 rfl ?_
    refine r_get (pc := 26) (k := 0) (j := 1) (Cn := RX8) (T := TX8) (N := 12) C (by decide) (ce0 _) rfl iaX8 (by decide) aw17 rfl rfl dX8_town_26 ?_
    refine r_getN (pc := 29) (k := 19) (j := 3) (Cn := RX3) (T := TX3) (N := 6) C (by decide) (ce19 _) rfl iaX3 (by decide) nf2 rfl rfl dX8_town_29 ?_
    refine r_topi (fun v9 ev9 => ?_)
    replace h := h v9 ev9
    refine r_put (pc := 32) (k := 0) (j := 10) (Cn := RX8) (T := TX8) (N := 12) (host := "") C (by decide) (ce0 _) rfl iaX8 (by decide) (ce0 _) tyX8_ok nmX8 aw228 rfl rfl (tyX8_ok 10 (by decide)) (Nat.le_of_ble_eq_true rfl) dX8_town_32 ?_
    refine r_topM (fun M10 eM10 => ?_)
    replace h := h M10 eM10
    refine r_ldc (pc := 35) C aw229 dX8_town_35 ?_
    refine r_aload_n (pc := 37) C 1 dX8_town_37 rfl ?_
    refine r_get (pc := 38) (k := 0) (j := 1) (Cn := RX8) (T := TX8) (N := 12) C (by decide) (ce0 _) rfl iaX8 (by decide) aw17 rfl rfl dX8_town_38 ?_
    refine r_getN (pc := 41) (k := 19) (j := 2) (Cn := RX3) (T := TX3) (N := 6) C (by decide) (ce19 _) rfl iaX3 (by decide) nf1 rfl rfl dX8_town_41 ?_
    refine r_isub (pc := 44) C dX8_town_44 ?_
    exact r_iret (pc := 45) C dX8_town_45 h
theorem yd_X8_fault : yX8_fault.cls ≠ "java/lang/invoke/MethodHandle" ∧ yX8_fault.cls ≠ "java/lang/invoke/VarHandle" ∧ (parseMethodDescriptor yX8_fault.desc).map (fun d => d.parameters.length) = some 0 := by decide +kernel
def w_X8_fault  (M : Mem)  (Q : Int32 → Mem → Prop) : Prop :=
  Q (M 0 10) M
abbrev rm_X8_fault : Room := { frames := 3, cells := 0, slots := 0, locals := 60 }
set_option maxHeartbeats 4000000 in
set_option maxRecDepth 100000 in
theorem c_X8_fault (X : Cx)  (M : Mem)  (Q : Int32 → Mem → Prop) (h : w_X8_fault  M  Q) : Ct yX8_fault cX8_fault 1 (some .int) rm_X8_fault X M [.ref (ad X 0)] (Qi X Q) := by
  refine ct_of (own := RX8) (lv := [(0, .ref (ad X 0))]) rfl (by decide) (Nat.le_of_ble_eq_true rfl) rfl ?_
  intro K C
  unfold w_X8_fault at h
  refine r_aload_n (pc := 0) C 0 dX8_fault_0 rfl ?_
  refine r_get (pc := 1) (k := 0) (j := 10) (Cn := RX8) (T := TX8) (N := 12) C (by decide) (ce0 _) rfl iaX8 (by decide) aw228 rfl rfl dX8_fault_1 ?_
  exact r_iret (pc := 4) C dX8_fault_4 h
theorem yd_X8_undo : yX8_undo.cls ≠ "java/lang/invoke/MethodHandle" ∧ yX8_undo.cls ≠ "java/lang/invoke/VarHandle" ∧ (parseMethodDescriptor yX8_undo.desc).map (fun d => d.parameters.length) = some 0 := by decide +kernel
def w_X8_undo  (M : Mem)  (Q : Int32 → Mem → Prop) : Prop :=
  ((¬ (M 21 6) = 0) → (w_X0_takeBack 41 M  (fun M2 => Q (M2 21 6) M2))) ∧ (((M 21 6) = 0) → (Q (-1000002) M))
abbrev rm_X8_undo : Room := { frames := 12, cells := 0, slots := 0, locals := 240 }
set_option maxHeartbeats 4000000 in
set_option maxRecDepth 100000 in
theorem c_X8_undo (X : Cx)  (M : Mem)  (Q : Int32 → Mem → Prop) (h : w_X8_undo  M  Q) : Ct yX8_undo cX8_undo 1 (some .int) rm_X8_undo X M [.ref (ad X 0)] (Qi X Q) := by
  refine ct_of (own := RX8) (lv := [(0, .ref (ad X 0))]) rfl (by decide) (Nat.le_of_ble_eq_true rfl) rfl ?_
  intro K C
  unfold w_X8_undo at h
  refine r_aload_n (pc := 0) C 0 dX8_undo_0 rfl ?_
  refine r_get (pc := 1) (k := 0) (j := 2) (Cn := RX8) (T := TX8) (N := 12) C (by decide) (ce0 _) rfl iaX8 (by decide) aw21 rfl rfl dX8_undo_1 ?_
  refine r_getN (pc := 4) (k := 21) (j := 6) (Cn := RX0) (T := TX0) (N := 7) C (by decide) (ce21 _) rfl iaX0 (by decide) nf3 rfl rfl dX8_undo_4 ?_
  refine r_if_ne (pc := 7) (tgt := 13) C dX8_undo_7 (by decide) (fun c1 => ?_) (fun c1 => ?_)
  · have h := h.1 c1
    refine r_aload_n (pc := 13) C 0 dX8_undo_13 rfl ?_
    refine r_get (pc := 14) (k := 0) (j := 2) (Cn := RX8) (T := TX8) (N := 12) C (by decide) (ce0 _) rfl iaX8 (by decide) aw21 rfl rfl dX8_undo_14 ?_
    refine r_aload_n (pc := 17) C 0 dX8_undo_17 rfl ?_
    refine r_get (pc := 18) (k := 0) (j := 4) (Cn := RX8) (T := TX8) (N := 12) C (by decide) (ce0 _) rfl iaX8 (by decide) aw29 rfl rfl dX8_undo_18 ?_
    have hM := c_X0_takeBack X 41 (show kd 41 = 6 from rfl) M  _ h
    refine q_s0 (s1 := List.reverse [.ref (ad X 41)] ++ .ref (ad X 21) :: []) rfl ?_
    refine r_callVNv (pc := 21) (k := 21) (As := [.ref (ad X 41)]) (st := []) C 1 (by decide) (ce21 _) rfl aw393 aw394 hM nm23 aw395 aw20 yd_X0_takeBack ⟨rfl, rfl⟩ ⟨Nat.le_of_ble_eq_true rfl, Nat.le_of_ble_eq_true rfl⟩ rfl (Nat.le_of_ble_eq_true rfl) dX8_undo_21 (fun M2 h => ?_)
    refine r_aload_n (pc := 24) C 0 dX8_undo_24 rfl ?_
    refine r_get (pc := 25) (k := 0) (j := 2) (Cn := RX8) (T := TX8) (N := 12) C (by decide) (ce0 _) rfl iaX8 (by decide) aw21 rfl rfl dX8_undo_25 ?_
    refine r_getN (pc := 28) (k := 21) (j := 6) (Cn := RX0) (T := TX0) (N := 7) C (by decide) (ce21 _) rfl iaX0 (by decide) nf3 rfl rfl dX8_undo_28 ?_
    exact r_iret (pc := 31) C dX8_undo_31 h
  · have h := h.2 c1
    refine r_ldc (pc := 10) C aw392 dX8_undo_10 ?_
    exact r_iret (pc := 12) C dX8_undo_12 h
theorem yd_X8_isPerson : yX8_isPerson.cls ≠ "java/lang/invoke/MethodHandle" ∧ yX8_isPerson.cls ≠ "java/lang/invoke/VarHandle" ∧ (parseMethodDescriptor yX8_isPerson.desc).map (fun d => d.parameters.length) = some 1 := by decide +kernel
def w_X8_isPerson  (M : Mem) (x1 : Int32) (Q : Int32 → Mem → Prop) : Prop :=
  w_X8_within  M x1 (M 41 3) (fun r2 M1 => vz r2 ∧ Q r2 M1)
abbrev rm_X8_isPerson : Room := { frames := 6, cells := 0, slots := 0, locals := 120 }
set_option maxHeartbeats 4000000 in
set_option maxRecDepth 100000 in
theorem c_X8_isPerson (X : Cx)  (M : Mem) (x1 : Int32) (Q : Int32 → Mem → Prop) (h : w_X8_isPerson  M x1 Q) : Ct yX8_isPerson cX8_isPerson 2 (some .boolean) rm_X8_isPerson X M [.ref (ad X 0), .int x1] (Qi X Q) := by
  refine ct_of (own := RX8) (lv := [(0, .ref (ad X 0)), (1, .int x1)]) rfl (by decide) (Nat.le_of_ble_eq_true rfl) rfl ?_
  intro K C
  unfold w_X8_isPerson at h
  refine r_iload_n (pc := 0) C 1 dX8_isPerson_0 rfl ?_
  refine r_aload_n (pc := 1) C 0 dX8_isPerson_1 rfl ?_
  refine r_get (pc := 2) (k := 0) (j := 4) (Cn := RX8) (T := TX8) (N := 12) C (by decide) (ce0 _) rfl iaX8 (by decide) aw29 rfl rfl dX8_isPerson_2 ?_
  refine r_getN (pc := 5) (k := 41) (j := 3) (Cn := RX6) (T := TX6) (N := 16) C (bdT (show kd 41 = 6 from rfl)) (ceT (show kd 41 = 6 from rfl) _) rfl iaX6 (by decide) nf15 rfl rfl dX8_isPerson_5 ?_
  have hM := c_X8_within X  M x1 (M 41 3) _ h
  refine q_s0 (s1 := List.reverse [.int x1, .int (M 41 3)] ++ []) rfl ?_
  refine r_callSi (pc := 8) (As := [.int x1, .int (M 41 3)]) (st := []) C 2 hM aw116 aw117 aw118 aw2 yd_X8_within ⟨rfl, rfl⟩ ⟨Nat.le_of_ble_eq_true rfl, Nat.le_of_ble_eq_true rfl⟩ rfl (Nat.le_of_ble_eq_true rfl) dX8_isPerson_8 (fun r2 M1 h => ?_)
  exact r_zret (pc := 11) C dX8_isPerson_11 h.1 h.2
theorem yd_X8_isDoor : yX8_isDoor.cls ≠ "java/lang/invoke/MethodHandle" ∧ yX8_isDoor.cls ≠ "java/lang/invoke/VarHandle" ∧ (parseMethodDescriptor yX8_isDoor.desc).map (fun d => d.parameters.length) = some 1 := by decide +kernel
def w_X8_isDoor  (M : Mem) (x1 : Int32) (Q : Int32 → Mem → Prop) : Prop :=
  w_X8_within  M x1 (M 41 2) (fun r2 M1 => vz r2 ∧ Q r2 M1)
abbrev rm_X8_isDoor : Room := { frames := 6, cells := 0, slots := 0, locals := 120 }
set_option maxHeartbeats 4000000 in
set_option maxRecDepth 100000 in
theorem c_X8_isDoor (X : Cx)  (M : Mem) (x1 : Int32) (Q : Int32 → Mem → Prop) (h : w_X8_isDoor  M x1 Q) : Ct yX8_isDoor cX8_isDoor 2 (some .boolean) rm_X8_isDoor X M [.ref (ad X 0), .int x1] (Qi X Q) := by
  refine ct_of (own := RX8) (lv := [(0, .ref (ad X 0)), (1, .int x1)]) rfl (by decide) (Nat.le_of_ble_eq_true rfl) rfl ?_
  intro K C
  unfold w_X8_isDoor at h
  refine r_iload_n (pc := 0) C 1 dX8_isDoor_0 rfl ?_
  refine r_aload_n (pc := 1) C 0 dX8_isDoor_1 rfl ?_
  refine r_get (pc := 2) (k := 0) (j := 4) (Cn := RX8) (T := TX8) (N := 12) C (by decide) (ce0 _) rfl iaX8 (by decide) aw29 rfl rfl dX8_isDoor_2 ?_
  refine r_getN (pc := 5) (k := 41) (j := 2) (Cn := RX6) (T := TX6) (N := 16) C (bdT (show kd 41 = 6 from rfl)) (ceT (show kd 41 = 6 from rfl) _) rfl iaX6 (by decide) nf11 rfl rfl dX8_isDoor_5 ?_
  have hM := c_X8_within X  M x1 (M 41 2) _ h
  refine q_s0 (s1 := List.reverse [.int x1, .int (M 41 2)] ++ []) rfl ?_
  refine r_callSi (pc := 8) (As := [.int x1, .int (M 41 2)]) (st := []) C 2 hM aw116 aw117 aw118 aw2 yd_X8_within ⟨rfl, rfl⟩ ⟨Nat.le_of_ble_eq_true rfl, Nat.le_of_ble_eq_true rfl⟩ rfl (Nat.le_of_ble_eq_true rfl) dX8_isDoor_8 (fun r2 M1 h => ?_)
  exact r_zret (pc := 11) C dX8_isDoor_11 h.1 h.2
theorem yd_X8_opens : yX8_opens.cls ≠ "java/lang/invoke/MethodHandle" ∧ yX8_opens.cls ≠ "java/lang/invoke/VarHandle" ∧ (parseMethodDescriptor yX8_opens.desc).map (fun d => d.parameters.length) = some 3 := by decide +kernel
def w_X8_opens (k1 : Nat) (M : Mem) (x2 : Int32) (x3 : Int32) (Q : Int32 → Mem → Prop) : Prop :=
  w_X2_hold k1 M x2 x3 (fun M1 => w_X2_opens  M1  (fun r4 M3 => vz r4 ∧ Q r4 M3))
abbrev rm_X8_opens : Room := { frames := 12, cells := 0, slots := 0, locals := 240 }
set_option maxHeartbeats 4000000 in
set_option maxRecDepth 100000 in
theorem c_X8_opens (X : Cx) (k1 : Nat) (h1 : kd k1 = 6) (M : Mem) (x2 : Int32) (x3 : Int32) (Q : Int32 → Mem → Prop) (h : w_X8_opens k1 M x2 x3 Q) : Ct yX8_opens cX8_opens 4 (some .boolean) rm_X8_opens X M [.ref (ad X 0), .ref (ad X k1), .int x2, .int x3] (Qi X Q) := by
  refine ct_of (own := RX8) (lv := [(0, .ref (ad X 0)), (1, .ref (ad X k1)), (2, .int x2), (3, .int x3)]) rfl (by decide) (Nat.le_of_ble_eq_true rfl) rfl ?_
  intro K C
  unfold w_X8_opens at h
  refine r_aload_n (pc := 0) C 0 dX8_opens_0 rfl ?_
  refine r_get (pc := 1) (k := 0) (j := 7) (Cn := RX8) (T := TX8) (N := 12) C (by decide) (ce0 _) rfl iaX8 (by decide) aw35 rfl rfl dX8_opens_1 ?_
  refine r_aload_n (pc := 4) C 1 dX8_opens_4 rfl ?_
  refine r_iload_n (pc := 5) C 2 dX8_opens_5 rfl ?_
  refine r_iload_n (pc := 6) C 3 dX8_opens_6 rfl ?_
  have hM := c_X2_hold X k1 h1 M x2 x3 _ h
  refine q_s0 (s1 := List.reverse [.ref (ad X k1), .int x2, .int x3] ++ .ref (ad X 29) :: []) rfl ?_
  refine r_callVNv (pc := 7) (k := 29) (As := [.ref (ad X k1), .int x2, .int x3]) (st := []) C 3 (by decide) (ce29 _) rfl aw428 aw429 hM nm27 aw430 aw34 yd_X2_hold ⟨rfl, rfl⟩ ⟨Nat.le_of_ble_eq_true rfl, Nat.le_of_ble_eq_true rfl⟩ rfl (Nat.le_of_ble_eq_true rfl) dX8_opens_7 (fun M1 h => ?_)
  refine r_aload_n (pc := 10) C 0 dX8_opens_10 rfl ?_
  refine r_get (pc := 11) (k := 0) (j := 7) (Cn := RX8) (T := TX8) (N := 12) C (by decide) (ce0 _) rfl iaX8 (by decide) aw35 rfl rfl dX8_opens_11 ?_
  have hM := c_X2_opens X  M1  _ h
  refine q_s0 (s1 := List.reverse [] ++ .ref (ad X 29) :: []) rfl ?_
  refine r_callVNi (pc := 14) (k := 29) (As := []) (st := []) C 0 (by decide) (ce29 _) rfl aw454 aw455 hM nm30 aw456 aw34 yd_X2_opens ⟨rfl, rfl⟩ ⟨Nat.le_of_ble_eq_true rfl, Nat.le_of_ble_eq_true rfl⟩ rfl (Nat.le_of_ble_eq_true rfl) dX8_opens_14 (fun r4 M3 h => ?_)
  exact r_zret (pc := 17) C dX8_opens_17 h.1 h.2
theorem yd_X8_knock : yX8_knock.cls ≠ "java/lang/invoke/MethodHandle" ∧ yX8_knock.cls ≠ "java/lang/invoke/VarHandle" ∧ (parseMethodDescriptor yX8_knock.desc).map (fun d => d.parameters.length) = some 2 := by decide +kernel
def w_X8_knock  (M : Mem) (x1 : Int32) (x2 : Int32) (Q : Int32 → Mem → Prop) : Prop :=
  w_X8_isPerson  M x1 (fun r2 M1 => ((r2 = 0) → (Q (-1000001) M1)) ∧ ((¬ r2 = 0) → (w_X8_isDoor  M1 x2 (fun r5 M4 => ((¬ r5 = 0) → (w_X6_isAtDoor 41 M4 x1 x2 (fun r8 M7 => ((¬ r8 = 0) → (w_X8_opens 41 M7 x1 x2 (fun r11 M10 => ((¬ r11 = 0) → (w_X0_keep  M10 1 x1 x2 (fun M13 => w_X0_remember 41 M13 x1 x2 (fun M15 => w_X6_pass 41 M15 x1 x2 (fun M17 => Q 1 M17))))) ∧ ((r11 = 0) → (w_X0_keep  M10 0 x1 x2 (fun M19 => Q 0 M19)))))) ∧ ((r8 = 0) → (Q (-1000002) M7))))) ∧ ((r5 = 0) → (Q (-1000001) M4))))))
abbrev rm_X8_knock : Room := { frames := 15, cells := 0, slots := 0, locals := 300 }
set_option maxHeartbeats 4000000 in
set_option maxRecDepth 100000 in
theorem c_X8_knock (X : Cx)  (M : Mem) (x1 : Int32) (x2 : Int32) (Q : Int32 → Mem → Prop) (h : w_X8_knock  M x1 x2 Q) : Ct yX8_knock cX8_knock 3 (some .int) rm_X8_knock X M [.ref (ad X 0), .int x1, .int x2] (Qi X Q) := by
  refine ct_of (own := RX8) (lv := [(0, .ref (ad X 0)), (1, .int x1), (2, .int x2)]) rfl (by decide) (Nat.le_of_ble_eq_true rfl) rfl ?_
  intro K C
  unfold w_X8_knock at h
  refine r_aload_n (pc := 0) C 0 dX8_knock_0 rfl ?_
  refine r_iload_n (pc := 1) C 1 dX8_knock_1 rfl ?_
  have hM := c_X8_isPerson X  M x1 _ h
  refine q_s0 (s1 := List.reverse [.int x1] ++ .ref (ad X 0) :: []) rfl ?_
  refine r_callVi (pc := 2) (k := 0) (As := [.int x1]) (st := []) C 1 (by decide) (ce0 _) rfl aw414 aw415 hM aw413 aw416 aw2 yd_X8_isPerson ⟨rfl, rfl⟩ ⟨Nat.le_of_ble_eq_true rfl, Nat.le_of_ble_eq_true rfl⟩ rfl (Nat.le_of_ble_eq_true rfl) dX8_knock_2 (fun r2 M1 h => ?_)
  refine r_if_eq (pc := 5) (tgt := 16) C dX8_knock_5 (by decide) (fun c3 => ?_) (fun c3 => ?_)
  · have h := h.1 c3
    refine r_ldc (pc := 16) C aw115 dX8_knock_16 ?_
    exact r_iret (pc := 18) C dX8_knock_18 h
  · have h := h.2 c3
    refine r_aload_n (pc := 8) C 0 dX8_knock_8 rfl ?_
    refine r_iload_n (pc := 9) C 2 dX8_knock_9 rfl ?_
    have hM := c_X8_isDoor X  M1 x2 _ h
    refine q_s0 (s1 := List.reverse [.int x2] ++ .ref (ad X 0) :: []) rfl ?_
    refine r_callVi (pc := 10) (k := 0) (As := [.int x2]) (st := []) C 1 (by decide) (ce0 _) rfl aw418 aw419 hM aw417 aw420 aw2 yd_X8_isDoor ⟨rfl, rfl⟩ ⟨Nat.le_of_ble_eq_true rfl, Nat.le_of_ble_eq_true rfl⟩ rfl (Nat.le_of_ble_eq_true rfl) dX8_knock_10 (fun r5 M4 h => ?_)
    refine r_if_ne (pc := 13) (tgt := 19) C dX8_knock_13 (by decide) (fun c6 => ?_) (fun c6 => ?_)
    · have h := h.1 c6
      refine r_aload_n (pc := 19) C 0 dX8_knock_19 rfl ?_
      refine r_get (pc := 20) (k := 0) (j := 4) (Cn := RX8) (T := TX8) (N := 12) C (by decide) (ce0 _) rfl iaX8 (by decide) aw29 rfl rfl dX8_knock_20 ?_
      refine r_iload_n (pc := 23) C 1 dX8_knock_23 rfl ?_
      refine r_iload_n (pc := 24) C 2 dX8_knock_24 rfl ?_
      have hM := c_X6_isAtDoor X 41 (show kd 41 = 6 from rfl) M4 x1 x2 _ h
      refine q_s0 (s1 := List.reverse [.int x1, .int x2] ++ .ref (ad X 41) :: []) rfl ?_
      refine r_callVNi (pc := 25) (k := 41) (As := [.int x1, .int x2]) (st := []) C 2 (bdT (show kd 41 = 6 from rfl)) (ceT (show kd 41 = 6 from rfl) _) rfl aw421 aw422 hM nm26 aw423 aw28 yd_X6_isAtDoor ⟨rfl, rfl⟩ ⟨Nat.le_of_ble_eq_true rfl, Nat.le_of_ble_eq_true rfl⟩ rfl (Nat.le_of_ble_eq_true rfl) dX8_knock_25 (fun r8 M7 h => ?_)
      refine r_if_ne (pc := 28) (tgt := 34) C dX8_knock_28 (by decide) (fun c9 => ?_) (fun c9 => ?_)
      · have h := h.1 c9
        refine r_aload_n (pc := 34) C 0 dX8_knock_34 rfl ?_
        refine r_aload_n (pc := 35) C 0 dX8_knock_35 rfl ?_
        refine r_get (pc := 36) (k := 0) (j := 4) (Cn := RX8) (T := TX8) (N := 12) C (by decide) (ce0 _) rfl iaX8 (by decide) aw29 rfl rfl dX8_knock_36 ?_
        refine r_iload_n (pc := 39) C 1 dX8_knock_39 rfl ?_
        refine r_iload_n (pc := 40) C 2 dX8_knock_40 rfl ?_
        have hM := c_X8_opens X 41 (show kd 41 = 6 from rfl) M7 x1 x2 _ h
        refine q_s0 (s1 := List.reverse [.ref (ad X 41), .int x1, .int x2] ++ .ref (ad X 0) :: []) rfl ?_
        refine r_callVi (pc := 41) (k := 0) (As := [.ref (ad X 41), .int x1, .int x2]) (st := []) C 3 (by decide) (ce0 _) rfl aw425 aw426 hM aw424 aw427 aw2 yd_X8_opens ⟨rfl, rfl⟩ ⟨Nat.le_of_ble_eq_true rfl, Nat.le_of_ble_eq_true rfl⟩ rfl (Nat.le_of_ble_eq_true rfl) dX8_knock_41 (fun r11 M10 h => ?_)
        refine r_if_ne (pc := 44) (tgt := 59) C dX8_knock_44 (by decide) (fun c12 => ?_) (fun c12 => ?_)
        · have h := h.1 c12
          refine r_aload_n (pc := 59) C 0 dX8_knock_59 rfl ?_
          refine r_get (pc := 60) (k := 0) (j := 2) (Cn := RX8) (T := TX8) (N := 12) C (by decide) (ce0 _) rfl iaX8 (by decide) aw21 rfl rfl dX8_knock_60 ?_
          refine r_iconst (pc := 63) (v := 1) C dX8_knock_63 (by decide) ?_
          refine r_iload_n (pc := 64) C 1 dX8_knock_64 rfl ?_
          refine r_iload_n (pc := 65) C 2 dX8_knock_65 rfl ?_
          have hM := c_X0_keep X  M10 1 x1 x2 _ h
          refine q_s0 (s1 := List.reverse [.int 1, .int x1, .int x2] ++ .ref (ad X 21) :: []) rfl ?_
          refine r_callVNv (pc := 66) (k := 21) (As := [.int 1, .int x1, .int x2]) (st := []) C 3 (by decide) (ce21 _) rfl aw461 aw462 hM nm31 aw463 aw20 yd_X0_keep ⟨rfl, rfl⟩ ⟨Nat.le_of_ble_eq_true rfl, Nat.le_of_ble_eq_true rfl⟩ rfl (Nat.le_of_ble_eq_true rfl) dX8_knock_66 (fun M13 h => ?_)
          refine r_aload_n (pc := 69) C 0 dX8_knock_69 rfl ?_
          refine r_get (pc := 70) (k := 0) (j := 2) (Cn := RX8) (T := TX8) (N := 12) C (by decide) (ce0 _) rfl iaX8 (by decide) aw21 rfl rfl dX8_knock_70 ?_
          refine r_aload_n (pc := 73) C 0 dX8_knock_73 rfl ?_
          refine r_get (pc := 74) (k := 0) (j := 4) (Cn := RX8) (T := TX8) (N := 12) C (by decide) (ce0 _) rfl iaX8 (by decide) aw29 rfl rfl dX8_knock_74 ?_
          refine r_iload_n (pc := 77) C 1 dX8_knock_77 rfl ?_
          refine r_iload_n (pc := 78) C 2 dX8_knock_78 rfl ?_
          have hM := c_X0_remember X 41 (show kd 41 = 6 from rfl) M13 x1 x2 _ h
          refine q_s0 (s1 := List.reverse [.ref (ad X 41), .int x1, .int x2] ++ .ref (ad X 21) :: []) rfl ?_
          refine r_callVNv (pc := 79) (k := 21) (As := [.ref (ad X 41), .int x1, .int x2]) (st := []) C 3 (by decide) (ce21 _) rfl aw467 aw468 hM nm32 aw469 aw20 yd_X0_remember ⟨rfl, rfl⟩ ⟨Nat.le_of_ble_eq_true rfl, Nat.le_of_ble_eq_true rfl⟩ rfl (Nat.le_of_ble_eq_true rfl) dX8_knock_79 (fun M15 h => ?_)
          refine r_aload_n (pc := 82) C 0 dX8_knock_82 rfl ?_
          refine r_get (pc := 83) (k := 0) (j := 4) (Cn := RX8) (T := TX8) (N := 12) C (by decide) (ce0 _) rfl iaX8 (by decide) aw29 rfl rfl dX8_knock_83 ?_
          refine r_iload_n (pc := 86) C 1 dX8_knock_86 rfl ?_
          refine r_iload_n (pc := 87) C 2 dX8_knock_87 rfl ?_
          have hM := c_X6_pass X 41 (show kd 41 = 6 from rfl) M15 x1 x2 _ h
          refine q_s0 (s1 := List.reverse [.int x1, .int x2] ++ .ref (ad X 41) :: []) rfl ?_
          refine r_callVNv (pc := 88) (k := 41) (As := [.int x1, .int x2]) (st := []) C 2 (bdT (show kd 41 = 6 from rfl)) (ceT (show kd 41 = 6 from rfl) _) rfl aw470 aw471 hM nm33 aw472 aw28 yd_X6_pass ⟨rfl, rfl⟩ ⟨Nat.le_of_ble_eq_true rfl, Nat.le_of_ble_eq_true rfl⟩ rfl (Nat.le_of_ble_eq_true rfl) dX8_knock_88 (fun M17 h => ?_)
          refine r_iconst (pc := 91) (v := 1) C dX8_knock_91 (by decide) ?_
          exact r_iret (pc := 92) C dX8_knock_92 h
        · have h := h.2 c12
          refine r_aload_n (pc := 47) C 0 dX8_knock_47 rfl ?_
          refine r_get (pc := 48) (k := 0) (j := 2) (Cn := RX8) (T := TX8) (N := 12) C (by decide) (ce0 _) rfl iaX8 (by decide) aw21 rfl rfl dX8_knock_48 ?_
          refine r_iconst (pc := 51) (v := 0) C dX8_knock_51 (by decide) ?_
          refine r_iload_n (pc := 52) C 1 dX8_knock_52 rfl ?_
          refine r_iload_n (pc := 53) C 2 dX8_knock_53 rfl ?_
          have hM := c_X0_keep X  M10 0 x1 x2 _ h
          refine q_s0 (s1 := List.reverse [.int 0, .int x1, .int x2] ++ .ref (ad X 21) :: []) rfl ?_
          refine r_callVNv (pc := 54) (k := 21) (As := [.int 0, .int x1, .int x2]) (st := []) C 3 (by decide) (ce21 _) rfl aw461 aw462 hM nm31 aw463 aw20 yd_X0_keep ⟨rfl, rfl⟩ ⟨Nat.le_of_ble_eq_true rfl, Nat.le_of_ble_eq_true rfl⟩ rfl (Nat.le_of_ble_eq_true rfl) dX8_knock_54 (fun M19 h => ?_)
          refine r_iconst (pc := 57) (v := 0) C dX8_knock_57 (by decide) ?_
          exact r_iret (pc := 58) C dX8_knock_58 h
      · have h := h.2 c9
        refine r_ldc (pc := 31) C aw392 dX8_knock_31 ?_
        exact r_iret (pc := 33) C dX8_knock_33 h
    · have h := h.2 c6
      refine r_ldc (pc := 16) C aw115 dX8_knock_16 ?_
      exact r_iret (pc := 18) C dX8_knock_18 h
theorem yd_X8_isTown : yX8_isTown.cls ≠ "java/lang/invoke/MethodHandle" ∧ yX8_isTown.cls ≠ "java/lang/invoke/VarHandle" ∧ (parseMethodDescriptor yX8_isTown.desc).map (fun d => d.parameters.length) = some 0 := by decide +kernel
def w_X8_isTown  (M : Mem)  (Q : Int32 → Mem → Prop) : Prop :=
  (((M 41 3) ≤ 0) → (Q 0 M)) ∧ ((¬ (M 41 3) ≤ 0) → ((((M 41 2) ≤ 0) → (Q 0 M)) ∧ ((¬ (M 41 2) ≤ 0) → (Q 1 M))))
abbrev rm_X8_isTown : Room := { frames := 3, cells := 0, slots := 0, locals := 60 }
set_option maxHeartbeats 4000000 in
set_option maxRecDepth 100000 in
theorem c_X8_isTown (X : Cx)  (M : Mem)  (Q : Int32 → Mem → Prop) (h : w_X8_isTown  M  Q) : Ct yX8_isTown cX8_isTown 1 (some .boolean) rm_X8_isTown X M [.ref (ad X 0)] (Qi X Q) := by
  refine ct_of (own := RX8) (lv := [(0, .ref (ad X 0))]) rfl (by decide) (Nat.le_of_ble_eq_true rfl) rfl ?_
  intro K C
  unfold w_X8_isTown at h
  refine r_aload_n (pc := 0) C 0 dX8_isTown_0 rfl ?_
  refine r_get (pc := 1) (k := 0) (j := 4) (Cn := RX8) (T := TX8) (N := 12) C (by decide) (ce0 _) rfl iaX8 (by decide) aw29 rfl rfl dX8_isTown_1 ?_
  refine r_getN (pc := 4) (k := 41) (j := 3) (Cn := RX6) (T := TX6) (N := 16) C (bdT (show kd 41 = 6 from rfl)) (ceT (show kd 41 = 6 from rfl) _) rfl iaX6 (by decide) nf15 rfl rfl dX8_isTown_4 ?_
  refine r_if_le (pc := 7) (tgt := 24) C dX8_isTown_7 (by decide) (fun c1 => ?_) (fun c1 => ?_)
  · have h := h.1 c1
    refine r_iconst (pc := 24) (v := 0) C dX8_isTown_24 (by decide) ?_
    exact r_zret (pc := 25) C dX8_isTown_25 (Or.inl rfl) h
  · have h := h.2 c1
    refine r_aload_n (pc := 10) C 0 dX8_isTown_10 rfl ?_
    refine r_get (pc := 11) (k := 0) (j := 4) (Cn := RX8) (T := TX8) (N := 12) C (by decide) (ce0 _) rfl iaX8 (by decide) aw29 rfl rfl dX8_isTown_11 ?_
    refine r_getN (pc := 14) (k := 41) (j := 2) (Cn := RX6) (T := TX6) (N := 16) C (bdT (show kd 41 = 6 from rfl)) (ceT (show kd 41 = 6 from rfl) _) rfl iaX6 (by decide) nf11 rfl rfl dX8_isTown_14 ?_
    refine r_if_le (pc := 17) (tgt := 24) C dX8_isTown_17 (by decide) (fun c2 => ?_) (fun c2 => ?_)
    · have h := h.1 c2
      refine r_iconst (pc := 24) (v := 0) C dX8_isTown_24 (by decide) ?_
      exact r_zret (pc := 25) C dX8_isTown_25 (Or.inl rfl) h
    · have h := h.2 c2
      refine r_iconst (pc := 20) (v := 1) C dX8_isTown_20 (by decide) ?_
      refine r_goto (pc := 21) (tgt := 25) C dX8_isTown_21 (by decide) ?_
      exact r_zret (pc := 25) C dX8_isTown_25 (Or.inr rfl) h
theorem yd_X8_days : yX8_days.cls ≠ "java/lang/invoke/MethodHandle" ∧ yX8_days.cls ≠ "java/lang/invoke/VarHandle" ∧ (parseMethodDescriptor yX8_days.desc).map (fun d => d.parameters.length) = some 1 := by decide +kernel
def wB_X8_days_44  (Q : Int32 → Mem → Prop)  (R44 : Mem → Int32 → Int32 → Prop) (M : Mem) (x1 : Int32) (x2 : Int32) : Prop :=
  ((x1 ≤ x2) → (Q (M 41 5) M)) ∧ ((¬ x1 ≤ x2) → (w_X0_keep  M 2 0 0 (fun M2 => ∀ v4 : Int32, v4 = ((M2 41 5) + 1) → (∀ M5 : Mem, M5 = ms M2 41 5 v4 → (∀ v6 : Int32, v6 = x2 + 1 → (R44 M5 x1 v6))))))
def wL_X8_days_44  (Q : Int32 → Mem → Prop)  : Nat → Mem → Int32 → Int32 → Prop
  | 0 => fun _ _ _ => False
  | n + 1 => fun M x1 x2 => wB_X8_days_44  Q  (wL_X8_days_44  Q  n) M x1 x2
theorem wL_X8_days_44_s  {Q : Int32 → Mem → Prop}  {n : Nat} {M : Mem} {x1 : Int32} {x2 : Int32} (h : wL_X8_days_44  Q  (n + 1) M x1 x2) : wB_X8_days_44  Q  (wL_X8_days_44  Q  n) M x1 x2 := h
def w_X8_days  (M : Mem) (x1 : Int32) (Q : Int32 → Mem → Prop) : Prop :=
  w_X8_isTown  M  (fun r2 M1 => ((¬ r2 = 0) → (((x1 < 1) → (Q (-1000001) M1)) ∧ ((¬ x1 < 1) → (((x1 ≤ 24) → (((((M1 41 5) + x1) ≤ 999) → (∃ n7 : Nat, wL_X8_days_44  Q  n7 M1 x1 0)) ∧ ((¬ ((M1 41 5) + x1) ≤ 999) → (Q (-1000003) M1)))) ∧ ((¬ x1 ≤ 24) → (Q (-1000001) M1)))))) ∧ ((r2 = 0) → (Q (-1000002) M1)))
abbrev rm_X8_days : Room := { frames := 6, cells := 0, slots := 0, locals := 120 }
set_option maxHeartbeats 4000000 in
set_option maxRecDepth 100000 in
theorem c_X8_days (X : Cx)  (M : Mem) (x1 : Int32) (Q : Int32 → Mem → Prop) (h : w_X8_days  M x1 Q) : Ct yX8_days cX8_days 3 (some .int) rm_X8_days X M [.ref (ad X 0), .int x1] (Qi X Q) := by
  refine ct_of (own := RX8) (lv := [(0, .ref (ad X 0)), (1, .int x1)]) rfl (by decide) (Nat.le_of_ble_eq_true rfl) rfl ?_
  intro K C
  have hL44 : ∀  (n : Nat) (M : Mem) (x1 : Int32) (x2 : Int32), wL_X8_days_44  Q  n M x1 x2 → WX K X 3 (Qi X Q) M 44 [(0, .ref (ad X 0)), (1, .int x1), (2, .int x2)] [] := by
    intro  n
    induction n with
    | zero => intro M x1 x2 h; exact absurd h id
    | succ n ih =>
      intro M x1 x2 h
      replace h := wL_X8_days_44_s h
      unfold wB_X8_days_44 at h
      refine r_iload_n (pc := 44) C 2 dX8_days_44 rfl ?_
      refine r_iload_n (pc := 45) C 1 dX8_days_45 rfl ?_
      refine r_icmp_ge (pc := 46) (tgt := 78) C dX8_days_46 (by decide) (fun c1 => ?_) (fun c1 => ?_)
      · have h := h.1 c1
        refine r_aload_n (pc := 78) C 0 dX8_days_78 rfl ?_
        refine r_get (pc := 79) (k := 0) (j := 4) (Cn := RX8) (T := TX8) (N := 12) C (by decide) (ce0 _) rfl iaX8 (by decide) aw29 rfl rfl dX8_days_79 ?_
        refine r_getN (pc := 82) (k := 41) (j := 5) (Cn := RX6) (T := TX6) (N := 16) C (bdT (show kd 41 = 6 from rfl)) (ceT (show kd 41 = 6 from rfl) _) rfl iaX6 (by decide) nf19 rfl rfl dX8_days_82 ?_
        exact r_iret (pc := 85) C dX8_days_85 h
      · have h := h.2 c1
        refine r_aload_n (pc := 49) C 0 dX8_days_49 rfl ?_
        refine r_get (pc := 50) (k := 0) (j := 2) (Cn := RX8) (T := TX8) (N := 12) C (by decide) (ce0 _) rfl iaX8 (by decide) aw21 rfl rfl dX8_days_50 ?_
        refine r_iconst (pc := 53) (v := 2) C dX8_days_53 (by decide) ?_
        refine r_iconst (pc := 54) (v := 0) C dX8_days_54 (by decide) ?_
        refine r_iconst (pc := 55) (v := 0) C dX8_days_55 (by decide) ?_
        have hM := c_X0_keep X  M 2 0 0 _ h
        refine q_s0 (s1 := List.reverse [.int 2, .int 0, .int 0] ++ .ref (ad X 21) :: []) rfl ?_
        refine r_callVNv (pc := 56) (k := 21) (As := [.int 2, .int 0, .int 0]) (st := []) C 3 (by decide) (ce21 _) rfl aw461 aw462 hM nm31 aw463 aw20 yd_X0_keep ⟨rfl, rfl⟩ ⟨Nat.le_of_ble_eq_true rfl, Nat.le_of_ble_eq_true rfl⟩ rfl (Nat.le_of_ble_eq_true rfl) dX8_days_56 (fun M2 h => ?_)
        refine r_aload_n (pc := 59) C 0 dX8_days_59 rfl ?_
        refine r_get (pc := 60) (k := 0) (j := 4) (Cn := RX8) (T := TX8) (N := 12) C (by decide) (ce0 _) rfl iaX8 (by decide) aw29 rfl rfl dX8_days_60 ?_
        refine r_dup (pc := 63) C dX8_days_63 rfl ?_
        refine r_getN (pc := 64) (k := 41) (j := 5) (Cn := RX6) (T := TX6) (N := 16) C (bdT (show kd 41 = 6 from rfl)) (ceT (show kd 41 = 6 from rfl) _) rfl iaX6 (by decide) nf19 rfl rfl dX8_days_64 ?_
        refine r_iconst (pc := 67) (v := 1) C dX8_days_67 (by decide) ?_
        refine r_iadd (pc := 68) C dX8_days_68 ?_
        refine r_topi (fun v4 ev4 => ?_)
        replace h := h v4 ev4
        refine r_putN (pc := 69) (k := 41) (j := 5) (Cn := RX6) (T := TX6) (N := 16) C (bdT (show kd 41 = 6 from rfl)) (ceT (show kd 41 = 6 from rfl) _) rfl iaX6 (by decide) (ceT (show kd 41 = 6 from rfl) _) tyX6_ok nmX6 nf19 rfl rfl (tyX6_ok 5 (by decide)) (Nat.le_of_ble_eq_true rfl) dX8_days_69 ?_
        refine r_topM (fun M5 eM5 => ?_)
        replace h := h M5 eM5
        obtain ⟨v6, ev6⟩ : ∃ z : Int32, z = x2 + 1 := ⟨_, rfl⟩
        replace h := h v6 ev6
        refine r_iinc (pc := 72) (v := v6) (lv2 := [(2, .int v6), (0, .ref (ad X 0)), (1, .int x1)]) C 2 dX8_days_72 rfl (by rw [ev6]; rfl) (by decide) rfl ?_
        refine r_goto (pc := 75) (tgt := 44) C dX8_days_75 (by decide) ?_
        refine r_sub (lv2 := [(0, .ref (ad X 0)), (1, .int x1), (2, .int v6)]) [1, 2, 0] rfl ?_
        exact ih _ _ _ h
  unfold w_X8_days at h
  refine r_aload_n (pc := 0) C 0 dX8_days_0 rfl ?_
  have hM := c_X8_isTown X  M  _ h
  refine q_s0 (s1 := List.reverse [] ++ .ref (ad X 0) :: []) rfl ?_
  refine r_callVi (pc := 1) (k := 0) (As := []) (st := []) C 0 (by decide) (ce0 _) rfl aw545 aw546 hM aw544 aw547 aw2 yd_X8_isTown ⟨rfl, rfl⟩ ⟨Nat.le_of_ble_eq_true rfl, Nat.le_of_ble_eq_true rfl⟩ rfl (Nat.le_of_ble_eq_true rfl) dX8_days_1 (fun r2 M1 h => ?_)
  refine r_if_ne (pc := 4) (tgt := 10) C dX8_days_4 (by decide) (fun c3 => ?_) (fun c3 => ?_)
  · have h := h.1 c3
    refine r_iload_n (pc := 10) C 1 dX8_days_10 rfl ?_
    refine r_iconst (pc := 11) (v := 1) C dX8_days_11 (by decide) ?_
    refine r_icmp_lt (pc := 12) (tgt := 21) C dX8_days_12 (by decide) (fun c4 => ?_) (fun c4 => ?_)
    · have h := h.1 c4
      refine r_ldc (pc := 21) C aw115 dX8_days_21 ?_
      exact r_iret (pc := 23) C dX8_days_23 h
    · have h := h.2 c4
      refine r_iload_n (pc := 15) C 1 dX8_days_15 rfl ?_
      refine r_bipush (pc := 16) (v := 24) C dX8_days_16 (by decide) ?_
      refine r_icmp_le (pc := 18) (tgt := 24) C dX8_days_18 (by decide) (fun c5 => ?_) (fun c5 => ?_)
      · have h := h.1 c5
        refine r_aload_n (pc := 24) C 0 dX8_days_24 rfl ?_
        refine r_get (pc := 25) (k := 0) (j := 4) (Cn := RX8) (T := TX8) (N := 12) C (by decide) (ce0 _) rfl iaX8 (by decide) aw29 rfl rfl dX8_days_25 ?_
        refine r_getN (pc := 28) (k := 41) (j := 5) (Cn := RX6) (T := TX6) (N := 16) C (bdT (show kd 41 = 6 from rfl)) (ceT (show kd 41 = 6 from rfl) _) rfl iaX6 (by decide) nf19 rfl rfl dX8_days_28 ?_
        refine r_iload_n (pc := 31) C 1 dX8_days_31 rfl ?_
        refine r_iadd (pc := 32) C dX8_days_32 ?_
        refine r_sipush (pc := 33) (v := 999) C dX8_days_33 (by decide) ?_
        refine r_icmp_le (pc := 36) (tgt := 42) C dX8_days_36 (by decide) (fun c6 => ?_) (fun c6 => ?_)
        · have h := h.1 c6
          refine r_iconst (pc := 42) (v := 0) C dX8_days_42 (by decide) ?_
          refine r_istore_n (pc := 43) (lv2 := [(2, .int 0), (0, .ref (ad X 0)), (1, .int x1)]) C dX8_days_43 (by decide) rfl ?_
          obtain ⟨n7, h⟩ := h
          refine r_sub (lv2 := [(0, .ref (ad X 0)), (1, .int x1), (2, .int 0)]) [1, 2, 0] rfl ?_
          exact hL44  _ _ _ _ h
        · have h := h.2 c6
          refine r_ldc (pc := 39) C aw212 dX8_days_39 ?_
          exact r_iret (pc := 41) C dX8_days_41 h
      · have h := h.2 c5
        refine r_ldc (pc := 21) C aw115 dX8_days_21 ?_
        exact r_iret (pc := 23) C dX8_days_23 h
  · have h := h.2 c3
    refine r_ldc (pc := 7) C aw392 dX8_days_7 ?_
    exact r_iret (pc := 9) C dX8_days_9 h
theorem yd_X8_gift : yX8_gift.cls ≠ "java/lang/invoke/MethodHandle" ∧ yX8_gift.cls ≠ "java/lang/invoke/VarHandle" ∧ (parseMethodDescriptor yX8_gift.desc).map (fun d => d.parameters.length) = some 2 := by decide +kernel
def wJ_X8_gift_62  (Q : Int32 → Mem → Prop)  (M : Mem) (x1 : Int32) (x3 : Int32) (s1 : Int32) : Prop :=
  w_X0_keep  M s1 x1 0 (fun M1 => vp_in x1 6 ∧ (∀ M4 : Mem, M4 = ms M1 (41 + 6) (Int32.toNatClampNeg x1) x3 → (Q x3 M4)))
def wJ_X8_gift_21  (Q : Int32 → Mem → Prop)  (M : Mem) (x1 : Int32) (x2 : Int32) : Prop :=
  vp_in x1 6 ∧ (∀ v2 : Int32, v2 = ((M (41 + 6) (Int32.toNatClampNeg x1)) + x2) → (((9 < v2) → (Q (-1000003) M)) ∧ ((¬ 9 < v2) → ((((-9) ≤ v2) → (((¬ x2 = 1) → (wJ_X8_gift_62  Q  M x1 v2 4)) ∧ ((x2 = 1) → (wJ_X8_gift_62  Q  M x1 v2 3)))) ∧ ((¬ (-9) ≤ v2) → (Q (-1000003) M))))))
def w_X8_gift  (M : Mem) (x1 : Int32) (x2 : Int32) (Q : Int32 → Mem → Prop) : Prop :=
  w_X8_isPerson  M x1 (fun r2 M1 => ((r2 = 0) → (Q (-1000001) M1)) ∧ ((¬ r2 = 0) → (((x2 = 1) → (wJ_X8_gift_21  Q  M1 x1 x2)) ∧ ((¬ x2 = 1) → (((x2 = (-1)) → (wJ_X8_gift_21  Q  M1 x1 x2)) ∧ ((¬ x2 = (-1)) → (Q (-1000001) M1)))))))
abbrev rm_X8_gift : Room := { frames := 9, cells := 0, slots := 0, locals := 180 }
set_option maxHeartbeats 4000000 in
set_option maxRecDepth 100000 in
theorem c_X8_gift (X : Cx)  (M : Mem) (x1 : Int32) (x2 : Int32) (Q : Int32 → Mem → Prop) (h : w_X8_gift  M x1 x2 Q) : Ct yX8_gift cX8_gift 4 (some .int) rm_X8_gift X M [.ref (ad X 0), .int x1, .int x2] (Qi X Q) := by
  refine ct_of (own := RX8) (lv := [(0, .ref (ad X 0)), (1, .int x1), (2, .int x2)]) rfl (by decide) (Nat.le_of_ble_eq_true rfl) rfl ?_
  intro K C
  have hJ62 : ∀  (M : Mem) (x1 : Int32) (x3 : Int32) (s1 : Int32), wJ_X8_gift_62  Q  M x1 x3 s1 → WX K X 4 (Qi X Q) M 62 [(0, .ref (ad X 0)), (1, .int x1), (3, .int x3)] [.int s1, .ref (ad X 21)] := by
    intro  M x1 x3 s1 h
    unfold wJ_X8_gift_62 at h
    refine r_iload_n (pc := 62) C 1 dX8_gift_62 rfl ?_
    refine r_iconst (pc := 63) (v := 0) C dX8_gift_63 (by decide) ?_
    have hM := c_X0_keep X  M s1 x1 0 _ h
    refine q_s0 (s1 := List.reverse [.int s1, .int x1, .int 0] ++ .ref (ad X 21) :: []) rfl ?_
    refine r_callVNv (pc := 64) (k := 21) (As := [.int s1, .int x1, .int 0]) (st := []) C 3 (by decide) (ce21 _) rfl aw461 aw462 hM nm31 aw463 aw20 yd_X0_keep ⟨rfl, rfl⟩ ⟨Nat.le_of_ble_eq_true rfl, Nat.le_of_ble_eq_true rfl⟩ rfl (Nat.le_of_ble_eq_true rfl) dX8_gift_64 (fun M1 h => ?_)
    refine r_aload_n (pc := 67) C 0 dX8_gift_67 rfl ?_
    refine r_get (pc := 68) (k := 0) (j := 4) (Cn := RX8) (T := TX8) (N := 12) C (by decide) (ce0 _) rfl iaX8 (by decide) aw29 rfl rfl dX8_gift_68 ?_
    refine r_getN (pc := 71) (k := 41) (j := 11) (Cn := RX6) (T := TX6) (N := 16) C (bdT (show kd 41 = 6 from rfl)) (ceT (show kd 41 = 6 from rfl) _) rfl iaX6 (by decide) nf30 rfl rfl dX8_gift_71 ?_
    refine r_iload_n (pc := 74) C 1 dX8_gift_74 rfl ?_
    refine r_iload_n (pc := 75) C 2 dX8_gift_75 rfl ?_
    obtain ⟨g3, h⟩ := h
    refine q_iast (pc := 76) (k := (41 + 6)) (n := 6) (j := (Int32.toNatClampNeg x1)) C (bdT6 (show kd 41 = 6 from rfl)) (ceT6 (show kd 41 = 6 from rfl)) g3 rfl dX8_gift_76 ?_
    refine r_topM (fun M4 eM4 => ?_)
    replace h := h M4 eM4
    refine r_iload_n (pc := 77) C 2 dX8_gift_77 rfl ?_
    exact r_iret (pc := 78) C dX8_gift_78 h
  have hJ21 : ∀  (M : Mem) (x1 : Int32) (x2 : Int32), wJ_X8_gift_21  Q  M x1 x2 → WX K X 4 (Qi X Q) M 21 [(0, .ref (ad X 0)), (1, .int x1), (2, .int x2)] [] := by
    intro  M x1 x2 h
    unfold wJ_X8_gift_21 at h
    refine r_aload_n (pc := 21) C 0 dX8_gift_21 rfl ?_
    refine r_get (pc := 22) (k := 0) (j := 4) (Cn := RX8) (T := TX8) (N := 12) C (by decide) (ce0 _) rfl iaX8 (by decide) aw29 rfl rfl dX8_gift_22 ?_
    refine r_getN (pc := 25) (k := 41) (j := 11) (Cn := RX6) (T := TX6) (N := 16) C (bdT (show kd 41 = 6 from rfl)) (ceT (show kd 41 = 6 from rfl) _) rfl iaX6 (by decide) nf30 rfl rfl dX8_gift_25 ?_
    refine r_iload_n (pc := 28) C 1 dX8_gift_28 rfl ?_
    obtain ⟨g1, h⟩ := h
    refine q_iald (pc := 29) (k := (41 + 6)) (n := 6) (j := (Int32.toNatClampNeg x1)) C (bdT6 (show kd 41 = 6 from rfl)) (ceT6 (show kd 41 = 6 from rfl) _) g1 rfl dX8_gift_29 ?_
    refine r_iload_n (pc := 30) C 2 dX8_gift_30 rfl ?_
    refine r_iadd (pc := 31) C dX8_gift_31 ?_
    refine r_topi (fun v2 ev2 => ?_)
    replace h := h v2 ev2
    refine r_istore_n (pc := 32) (lv2 := [(3, .int v2), (0, .ref (ad X 0)), (1, .int x1), (2, .int x2)]) C dX8_gift_32 (by decide) rfl ?_
    refine r_iload_n (pc := 33) C 0 dX8_gift_33 rfl ?_
    refine r_bipush (pc := 34) (v := 9) C dX8_gift_34 (by decide) ?_
    refine r_icmp_gt (pc := 36) (tgt := 45) C dX8_gift_36 (by decide) (fun c3 => ?_) (fun c3 => ?_)
    · have h := h.1 c3
      refine r_ldc (pc := 45) C aw212 dX8_gift_45 ?_
      exact r_iret (pc := 47) C dX8_gift_47 h
    · have h := h.2 c3
      refine r_iload_n (pc := 39) C 0 dX8_gift_39 rfl ?_
      refine r_bipush (pc := 40) (v := (-9)) C dX8_gift_40 (by decide) ?_
      refine r_icmp_ge (pc := 42) (tgt := 48) C dX8_gift_42 (by decide) (fun c4 => ?_) (fun c4 => ?_)
      · have h := h.1 c4
        refine r_aload_n (pc := 48) C 1 dX8_gift_48 rfl ?_
        refine r_get (pc := 49) (k := 0) (j := 2) (Cn := RX8) (T := TX8) (N := 12) C (by decide) (ce0 _) rfl iaX8 (by decide) aw21 rfl rfl dX8_gift_49 ?_
        refine r_iload_n (pc := 52) C 3 dX8_gift_52 rfl ?_
        refine r_iconst (pc := 53) (v := 1) C dX8_gift_53 (by decide) ?_
        refine r_icmp_ne (pc := 54) (tgt := 61) C dX8_gift_54 (by decide) (fun c5 => ?_) (fun c5 => ?_)
        · have h := h.1 c5
          refine r_iconst (pc := 61) (v := 4) C dX8_gift_61 (by decide) ?_
          refine r_sub (lv2 := [(0, .ref (ad X 0)), (1, .int x1), (3, .int v2)]) [1, 2, 0] rfl ?_
          exact hJ62  _ _ _ _ h
        · have h := h.2 c5
          refine r_iconst (pc := 57) (v := 3) C dX8_gift_57 (by decide) ?_
          refine r_goto (pc := 58) (tgt := 62) C dX8_gift_58 (by decide) ?_
          refine r_sub (lv2 := [(0, .ref (ad X 0)), (1, .int x1), (3, .int v2)]) [1, 2, 0] rfl ?_
          exact hJ62  _ _ _ _ h
      · have h := h.2 c4
        refine r_ldc (pc := 45) C aw212 dX8_gift_45 ?_
        exact r_iret (pc := 47) C dX8_gift_47 h
  unfold w_X8_gift at h
  refine r_aload_n (pc := 0) C 0 dX8_gift_0 rfl ?_
  refine r_iload_n (pc := 1) C 1 dX8_gift_1 rfl ?_
  have hM := c_X8_isPerson X  M x1 _ h
  refine q_s0 (s1 := List.reverse [.int x1] ++ .ref (ad X 0) :: []) rfl ?_
  refine r_callVi (pc := 2) (k := 0) (As := [.int x1]) (st := []) C 1 (by decide) (ce0 _) rfl aw414 aw415 hM aw413 aw416 aw2 yd_X8_isPerson ⟨rfl, rfl⟩ ⟨Nat.le_of_ble_eq_true rfl, Nat.le_of_ble_eq_true rfl⟩ rfl (Nat.le_of_ble_eq_true rfl) dX8_gift_2 (fun r2 M1 h => ?_)
  refine r_if_eq (pc := 5) (tgt := 18) C dX8_gift_5 (by decide) (fun c3 => ?_) (fun c3 => ?_)
  · have h := h.1 c3
    refine r_ldc (pc := 18) C aw115 dX8_gift_18 ?_
    exact r_iret (pc := 20) C dX8_gift_20 h
  · have h := h.2 c3
    refine r_iload_n (pc := 8) C 2 dX8_gift_8 rfl ?_
    refine r_iconst (pc := 9) (v := 1) C dX8_gift_9 (by decide) ?_
    refine r_icmp_eq (pc := 10) (tgt := 21) C dX8_gift_10 (by decide) (fun c4 => ?_) (fun c4 => ?_)
    · have h := h.1 c4
      refine r_sub (lv2 := [(0, .ref (ad X 0)), (1, .int x1), (2, .int x2)]) [0, 1, 2] rfl ?_
      exact hJ21  _ _ _ h
    · have h := h.2 c4
      refine r_iload_n (pc := 13) C 2 dX8_gift_13 rfl ?_
      refine r_iconst (pc := 14) (v := (-1)) C dX8_gift_14 (by decide) ?_
      refine r_icmp_eq (pc := 15) (tgt := 21) C dX8_gift_15 (by decide) (fun c5 => ?_) (fun c5 => ?_)
      · have h := h.1 c5
        refine r_sub (lv2 := [(0, .ref (ad X 0)), (1, .int x1), (2, .int x2)]) [0, 1, 2] rfl ?_
        exact hJ21  _ _ _ h
      · have h := h.2 c5
        refine r_ldc (pc := 18) C aw115 dX8_gift_18 ?_
        exact r_iret (pc := 20) C dX8_gift_20 h
theorem yd_X8_isRoom : yX8_isRoom.cls ≠ "java/lang/invoke/MethodHandle" ∧ yX8_isRoom.cls ≠ "java/lang/invoke/VarHandle" ∧ (parseMethodDescriptor yX8_isRoom.desc).map (fun d => d.parameters.length) = some 1 := by decide +kernel
def w_X8_isRoom  (M : Mem) (x1 : Int32) (Q : Int32 → Mem → Prop) : Prop :=
  w_X8_within  M x1 (M 41 0) (fun r2 M1 => vz r2 ∧ Q r2 M1)
abbrev rm_X8_isRoom : Room := { frames := 6, cells := 0, slots := 0, locals := 120 }
set_option maxHeartbeats 4000000 in
set_option maxRecDepth 100000 in
theorem c_X8_isRoom (X : Cx)  (M : Mem) (x1 : Int32) (Q : Int32 → Mem → Prop) (h : w_X8_isRoom  M x1 Q) : Ct yX8_isRoom cX8_isRoom 2 (some .boolean) rm_X8_isRoom X M [.ref (ad X 0), .int x1] (Qi X Q) := by
  refine ct_of (own := RX8) (lv := [(0, .ref (ad X 0)), (1, .int x1)]) rfl (by decide) (Nat.le_of_ble_eq_true rfl) rfl ?_
  intro K C
  unfold w_X8_isRoom at h
  refine r_iload_n (pc := 0) C 1 dX8_isRoom_0 rfl ?_
  refine r_aload_n (pc := 1) C 0 dX8_isRoom_1 rfl ?_
  refine r_get (pc := 2) (k := 0) (j := 4) (Cn := RX8) (T := TX8) (N := 12) C (by decide) (ce0 _) rfl iaX8 (by decide) aw29 rfl rfl dX8_isRoom_2 ?_
  refine r_getN (pc := 5) (k := 41) (j := 0) (Cn := RX6) (T := TX6) (N := 16) C (bdT (show kd 41 = 6 from rfl)) (ceT (show kd 41 = 6 from rfl) _) rfl iaX6 (by decide) nf7 rfl rfl dX8_isRoom_5 ?_
  have hM := c_X8_within X  M x1 (M 41 0) _ h
  refine q_s0 (s1 := List.reverse [.int x1, .int (M 41 0)] ++ []) rfl ?_
  refine r_callSi (pc := 8) (As := [.int x1, .int (M 41 0)]) (st := []) C 2 hM aw116 aw117 aw118 aw2 yd_X8_within ⟨rfl, rfl⟩ ⟨Nat.le_of_ble_eq_true rfl, Nat.le_of_ble_eq_true rfl⟩ rfl (Nat.le_of_ble_eq_true rfl) dX8_isRoom_8 (fun r2 M1 h => ?_)
  exact r_zret (pc := 11) C dX8_isRoom_11 h.1 h.2
theorem yd_X8_build : yX8_build.cls ≠ "java/lang/invoke/MethodHandle" ∧ yX8_build.cls ≠ "java/lang/invoke/VarHandle" ∧ (parseMethodDescriptor yX8_build.desc).map (fun d => d.parameters.length) = some 2 := by decide +kernel
def w_X8_build  (M : Mem) (x1 : Int32) (x2 : Int32) (Q : Int32 → Mem → Prop) : Prop :=
  w_X8_isRoom  M x1 (fun r2 M1 => ((r2 = 0) → (Q (-1000001) M1)) ∧ ((¬ r2 = 0) → (w_X8_isRoom  M1 x2 (fun r5 M4 => ((r5 = 0) → (Q (-1000001) M4)) ∧ ((¬ r5 = 0) → (((¬ x1 = x2) → (((¬ (M4 41 2) = 6) → (w_X0_keep  M4 5 0 (M4 41 2) (fun M9 => w_X6_addDoor 41 M9 x1 x2 (fun M11 => Q ((M11 41 2) - 1) M11)))) ∧ (((M4 41 2) = 6) → (Q (-1000003) M4)))) ∧ ((x1 = x2) → (Q (-1000001) M4))))))))
abbrev rm_X8_build : Room := { frames := 9, cells := 0, slots := 0, locals := 180 }
set_option maxHeartbeats 4000000 in
set_option maxRecDepth 100000 in
theorem c_X8_build (X : Cx)  (M : Mem) (x1 : Int32) (x2 : Int32) (Q : Int32 → Mem → Prop) (h : w_X8_build  M x1 x2 Q) : Ct yX8_build cX8_build 3 (some .int) rm_X8_build X M [.ref (ad X 0), .int x1, .int x2] (Qi X Q) := by
  refine ct_of (own := RX8) (lv := [(0, .ref (ad X 0)), (1, .int x1), (2, .int x2)]) rfl (by decide) (Nat.le_of_ble_eq_true rfl) rfl ?_
  intro K C
  unfold w_X8_build at h
  refine r_aload_n (pc := 0) C 0 dX8_build_0 rfl ?_
  refine r_iload_n (pc := 1) C 1 dX8_build_1 rfl ?_
  have hM := c_X8_isRoom X  M x1 _ h
  refine q_s0 (s1 := List.reverse [.int x1] ++ .ref (ad X 0) :: []) rfl ?_
  refine r_callVi (pc := 2) (k := 0) (As := [.int x1]) (st := []) C 1 (by decide) (ce0 _) rfl aw568 aw569 hM aw567 aw570 aw2 yd_X8_isRoom ⟨rfl, rfl⟩ ⟨Nat.le_of_ble_eq_true rfl, Nat.le_of_ble_eq_true rfl⟩ rfl (Nat.le_of_ble_eq_true rfl) dX8_build_2 (fun r2 M1 h => ?_)
  refine r_if_eq (pc := 5) (tgt := 21) C dX8_build_5 (by decide) (fun c3 => ?_) (fun c3 => ?_)
  · have h := h.1 c3
    refine r_ldc (pc := 21) C aw115 dX8_build_21 ?_
    exact r_iret (pc := 23) C dX8_build_23 h
  · have h := h.2 c3
    refine r_aload_n (pc := 8) C 0 dX8_build_8 rfl ?_
    refine r_iload_n (pc := 9) C 2 dX8_build_9 rfl ?_
    have hM := c_X8_isRoom X  M1 x2 _ h
    refine q_s0 (s1 := List.reverse [.int x2] ++ .ref (ad X 0) :: []) rfl ?_
    refine r_callVi (pc := 10) (k := 0) (As := [.int x2]) (st := []) C 1 (by decide) (ce0 _) rfl aw568 aw569 hM aw567 aw570 aw2 yd_X8_isRoom ⟨rfl, rfl⟩ ⟨Nat.le_of_ble_eq_true rfl, Nat.le_of_ble_eq_true rfl⟩ rfl (Nat.le_of_ble_eq_true rfl) dX8_build_10 (fun r5 M4 h => ?_)
    refine r_if_eq (pc := 13) (tgt := 21) C dX8_build_13 (by decide) (fun c6 => ?_) (fun c6 => ?_)
    · have h := h.1 c6
      refine r_ldc (pc := 21) C aw115 dX8_build_21 ?_
      exact r_iret (pc := 23) C dX8_build_23 h
    · have h := h.2 c6
      refine r_iload_n (pc := 16) C 1 dX8_build_16 rfl ?_
      refine r_iload_n (pc := 17) C 2 dX8_build_17 rfl ?_
      refine r_icmp_ne (pc := 18) (tgt := 24) C dX8_build_18 (by decide) (fun c7 => ?_) (fun c7 => ?_)
      · have h := h.1 c7
        refine r_aload_n (pc := 24) C 0 dX8_build_24 rfl ?_
        refine r_get (pc := 25) (k := 0) (j := 4) (Cn := RX8) (T := TX8) (N := 12) C (by decide) (ce0 _) rfl iaX8 (by decide) aw29 rfl rfl dX8_build_25 ?_
        refine r_getN (pc := 28) (k := 41) (j := 2) (Cn := RX6) (T := TX6) (N := 16) C (bdT (show kd 41 = 6 from rfl)) (ceT (show kd 41 = 6 from rfl) _) rfl iaX6 (by decide) nf11 rfl rfl dX8_build_28 ?_
        refine r_bipush (pc := 31) (v := 6) C dX8_build_31 (by decide) ?_
        refine r_icmp_ne (pc := 33) (tgt := 39) C dX8_build_33 (by decide) (fun c8 => ?_) (fun c8 => ?_)
        · have h := h.1 c8
          refine r_aload_n (pc := 39) C 0 dX8_build_39 rfl ?_
          refine r_get (pc := 40) (k := 0) (j := 2) (Cn := RX8) (T := TX8) (N := 12) C (by decide) (ce0 _) rfl iaX8 (by decide) aw21 rfl rfl dX8_build_40 ?_
          refine r_iconst (pc := 43) (v := 5) C dX8_build_43 (by decide) ?_
          refine r_iconst (pc := 44) (v := 0) C dX8_build_44 (by decide) ?_
          refine r_aload_n (pc := 45) C 0 dX8_build_45 rfl ?_
          refine r_get (pc := 46) (k := 0) (j := 4) (Cn := RX8) (T := TX8) (N := 12) C (by decide) (ce0 _) rfl iaX8 (by decide) aw29 rfl rfl dX8_build_46 ?_
          refine r_getN (pc := 49) (k := 41) (j := 2) (Cn := RX6) (T := TX6) (N := 16) C (bdT (show kd 41 = 6 from rfl)) (ceT (show kd 41 = 6 from rfl) _) rfl iaX6 (by decide) nf11 rfl rfl dX8_build_49 ?_
          have hM := c_X0_keep X  M4 5 0 (M4 41 2) _ h
          refine q_s0 (s1 := List.reverse [.int 5, .int 0, .int (M4 41 2)] ++ .ref (ad X 21) :: []) rfl ?_
          refine r_callVNv (pc := 52) (k := 21) (As := [.int 5, .int 0, .int (M4 41 2)]) (st := []) C 3 (by decide) (ce21 _) rfl aw461 aw462 hM nm31 aw463 aw20 yd_X0_keep ⟨rfl, rfl⟩ ⟨Nat.le_of_ble_eq_true rfl, Nat.le_of_ble_eq_true rfl⟩ rfl (Nat.le_of_ble_eq_true rfl) dX8_build_52 (fun M9 h => ?_)
          refine r_aload_n (pc := 55) C 0 dX8_build_55 rfl ?_
          refine r_get (pc := 56) (k := 0) (j := 4) (Cn := RX8) (T := TX8) (N := 12) C (by decide) (ce0 _) rfl iaX8 (by decide) aw29 rfl rfl dX8_build_56 ?_
          refine r_iload_n (pc := 59) C 1 dX8_build_59 rfl ?_
          refine r_iload_n (pc := 60) C 2 dX8_build_60 rfl ?_
          have hM := c_X6_addDoor X 41 (show kd 41 = 6 from rfl) M9 x1 x2 _ h
          refine q_s0 (s1 := List.reverse [.int x1, .int x2] ++ .ref (ad X 41) :: []) rfl ?_
          refine r_callVNv (pc := 61) (k := 41) (As := [.int x1, .int x2]) (st := []) C 2 (bdT (show kd 41 = 6 from rfl)) (ceT (show kd 41 = 6 from rfl) _) rfl aw282 aw283 hM nm34 aw284 aw28 yd_X6_addDoor ⟨rfl, rfl⟩ ⟨Nat.le_of_ble_eq_true rfl, Nat.le_of_ble_eq_true rfl⟩ rfl (Nat.le_of_ble_eq_true rfl) dX8_build_61 (fun M11 h => ?_)
          refine r_aload_n (pc := 64) C 0 dX8_build_64 rfl ?_
          refine r_get (pc := 65) (k := 0) (j := 4) (Cn := RX8) (T := TX8) (N := 12) C (by decide) (ce0 _) rfl iaX8 (by decide) aw29 rfl rfl dX8_build_65 ?_
          refine r_getN (pc := 68) (k := 41) (j := 2) (Cn := RX6) (T := TX6) (N := 16) C (bdT (show kd 41 = 6 from rfl)) (ceT (show kd 41 = 6 from rfl) _) rfl iaX6 (by decide) nf11 rfl rfl dX8_build_68 ?_
          refine r_iconst (pc := 71) (v := 1) C dX8_build_71 (by decide) ?_
          refine r_isub (pc := 72) C dX8_build_72 ?_
          exact r_iret (pc := 73) C dX8_build_73 h
        · have h := h.2 c8
          refine r_ldc (pc := 36) C aw212 dX8_build_36 ?_
          exact r_iret (pc := 38) C dX8_build_38 h
      · have h := h.2 c7
        refine r_ldc (pc := 21) C aw115 dX8_build_21 ?_
        exact r_iret (pc := 23) C dX8_build_23 h
theorem yd_X8_person : yX8_person.cls ≠ "java/lang/invoke/MethodHandle" ∧ yX8_person.cls ≠ "java/lang/invoke/VarHandle" ∧ (parseMethodDescriptor yX8_person.desc).map (fun d => d.parameters.length) = some 2 := by decide +kernel
def w_X8_person  (M : Mem) (x1 : Int32) (x2 : Int32) (Q : Int32 → Mem → Prop) : Prop :=
  w_X8_isPerson  M x1 (fun r2 M1 => ((¬ r2 = 0) → ((x2 = 0 → (vp_in x1 6 ∧ (Q (M1 (41 + 4) (Int32.toNatClampNeg x1)) M1))) ∧ (x2 = 1 → (vp_in x1 6 ∧ (Q (M1 (41 + 5) (Int32.toNatClampNeg x1)) M1))) ∧ (x2 = 2 → (vp_in x1 6 ∧ (Q (M1 (41 + 6) (Int32.toNatClampNeg x1)) M1))) ∧ (x2 = 3 → (w_X6_timesOf 41 M1 x1 (fun r12 M11 => Q r12 M11))) ∧ (x2 = 4 → (vp_in x1 6 ∧ (Q (M1 (41 + 7) (Int32.toNatClampNeg x1)) M1))) ∧ (x2 = 5 → (vp_in x1 6 ∧ (Q (M1 (41 + 8) (Int32.toNatClampNeg x1)) M1))) ∧ (¬ x2 = 0 → ¬ x2 = 1 → ¬ x2 = 2 → ¬ x2 = 3 → ¬ x2 = 4 → ¬ x2 = 5 → (Q (-1000001) M1)))) ∧ ((r2 = 0) → (Q (-1000001) M1)))
abbrev rm_X8_person : Room := { frames := 9, cells := 0, slots := 0, locals := 180 }
set_option maxHeartbeats 4000000 in
set_option maxRecDepth 100000 in
theorem c_X8_person (X : Cx)  (M : Mem) (x1 : Int32) (x2 : Int32) (Q : Int32 → Mem → Prop) (h : w_X8_person  M x1 x2 Q) : Ct yX8_person cX8_person 3 (some .int) rm_X8_person X M [.ref (ad X 0), .int x1, .int x2] (Qi X Q) := by
  refine ct_of (own := RX8) (lv := [(0, .ref (ad X 0)), (1, .int x1), (2, .int x2)]) rfl (by decide) (Nat.le_of_ble_eq_true rfl) rfl ?_
  intro K C
  unfold w_X8_person at h
  refine r_aload_n (pc := 0) C 0 dX8_person_0 rfl ?_
  refine r_iload_n (pc := 1) C 1 dX8_person_1 rfl ?_
  have hM := c_X8_isPerson X  M x1 _ h
  refine q_s0 (s1 := List.reverse [.int x1] ++ .ref (ad X 0) :: []) rfl ?_
  refine r_callVi (pc := 2) (k := 0) (As := [.int x1]) (st := []) C 1 (by decide) (ce0 _) rfl aw414 aw415 hM aw413 aw416 aw2 yd_X8_isPerson ⟨rfl, rfl⟩ ⟨Nat.le_of_ble_eq_true rfl, Nat.le_of_ble_eq_true rfl⟩ rfl (Nat.le_of_ble_eq_true rfl) dX8_person_2 (fun r2 M1 h => ?_)
  refine r_if_ne (pc := 5) (tgt := 11) C dX8_person_5 (by decide) (fun c3 => ?_) (fun c3 => ?_)
  · have h := h.1 c3
    refine r_iload_n (pc := 11) C 2 dX8_person_11 rfl ?_
    by_cases e4 : x2 = 0
    · have h := h.1 e4
      refine r_tabIn (pc := 12) (off := 40) (tgt := 52) C 0 e4 dX8_person_12 (by decide) (by decide) (by decide) (by decide) ?_
      refine r_aload_n (pc := 52) C 0 dX8_person_52 rfl ?_
      refine r_get (pc := 53) (k := 0) (j := 4) (Cn := RX8) (T := TX8) (N := 12) C (by decide) (ce0 _) rfl iaX8 (by decide) aw29 rfl rfl dX8_person_53 ?_
      refine r_getN (pc := 56) (k := 41) (j := 9) (Cn := RX6) (T := TX6) (N := 16) C (bdT (show kd 41 = 6 from rfl)) (ceT (show kd 41 = 6 from rfl) _) rfl iaX6 (by decide) nf26 rfl rfl dX8_person_56 ?_
      refine r_iload_n (pc := 59) C 1 dX8_person_59 rfl ?_
      obtain ⟨g5, h⟩ := h
      refine q_iald (pc := 60) (k := (41 + 4)) (n := 6) (j := (Int32.toNatClampNeg x1)) C (bdT4 (show kd 41 = 6 from rfl)) (ceT4 (show kd 41 = 6 from rfl) _) g5 rfl dX8_person_60 ?_
      exact r_iret (pc := 61) C dX8_person_61 h
    · skip
      by_cases e6 : x2 = 1
      · have h := h.2.1 e6
        refine r_tabIn (pc := 12) (off := 50) (tgt := 62) C 1 e6 dX8_person_12 (by decide) (by decide) (by decide) (by decide) ?_
        refine r_aload_n (pc := 62) C 0 dX8_person_62 rfl ?_
        refine r_get (pc := 63) (k := 0) (j := 4) (Cn := RX8) (T := TX8) (N := 12) C (by decide) (ce0 _) rfl iaX8 (by decide) aw29 rfl rfl dX8_person_63 ?_
        refine r_getN (pc := 66) (k := 41) (j := 10) (Cn := RX6) (T := TX6) (N := 16) C (bdT (show kd 41 = 6 from rfl)) (ceT (show kd 41 = 6 from rfl) _) rfl iaX6 (by decide) nf28 rfl rfl dX8_person_66 ?_
        refine r_iload_n (pc := 69) C 1 dX8_person_69 rfl ?_
        obtain ⟨g7, h⟩ := h
        refine q_iald (pc := 70) (k := (41 + 5)) (n := 6) (j := (Int32.toNatClampNeg x1)) C (bdT5 (show kd 41 = 6 from rfl)) (ceT5 (show kd 41 = 6 from rfl) _) g7 rfl dX8_person_70 ?_
        exact r_iret (pc := 71) C dX8_person_71 h
      · skip
        by_cases e8 : x2 = 2
        · have h := h.2.2.1 e8
          refine r_tabIn (pc := 12) (off := 60) (tgt := 72) C 2 e8 dX8_person_12 (by decide) (by decide) (by decide) (by decide) ?_
          refine r_aload_n (pc := 72) C 0 dX8_person_72 rfl ?_
          refine r_get (pc := 73) (k := 0) (j := 4) (Cn := RX8) (T := TX8) (N := 12) C (by decide) (ce0 _) rfl iaX8 (by decide) aw29 rfl rfl dX8_person_73 ?_
          refine r_getN (pc := 76) (k := 41) (j := 11) (Cn := RX6) (T := TX6) (N := 16) C (bdT (show kd 41 = 6 from rfl)) (ceT (show kd 41 = 6 from rfl) _) rfl iaX6 (by decide) nf30 rfl rfl dX8_person_76 ?_
          refine r_iload_n (pc := 79) C 1 dX8_person_79 rfl ?_
          obtain ⟨g9, h⟩ := h
          refine q_iald (pc := 80) (k := (41 + 6)) (n := 6) (j := (Int32.toNatClampNeg x1)) C (bdT6 (show kd 41 = 6 from rfl)) (ceT6 (show kd 41 = 6 from rfl) _) g9 rfl dX8_person_80 ?_
          exact r_iret (pc := 81) C dX8_person_81 h
        · skip
          by_cases e10 : x2 = 3
          · have h := h.2.2.2.1 e10
            refine r_tabIn (pc := 12) (off := 70) (tgt := 82) C 3 e10 dX8_person_12 (by decide) (by decide) (by decide) (by decide) ?_
            refine r_aload_n (pc := 82) C 0 dX8_person_82 rfl ?_
            refine r_get (pc := 83) (k := 0) (j := 4) (Cn := RX8) (T := TX8) (N := 12) C (by decide) (ce0 _) rfl iaX8 (by decide) aw29 rfl rfl dX8_person_83 ?_
            refine r_iload_n (pc := 86) C 1 dX8_person_86 rfl ?_
            have hM := c_X6_timesOf X 41 (show kd 41 = 6 from rfl) M1 x1 _ h
            refine q_s0 (s1 := List.reverse [.int x1] ++ .ref (ad X 41) :: []) rfl ?_
            refine r_callVNi (pc := 87) (k := 41) (As := [.int x1]) (st := []) C 1 (bdT (show kd 41 = 6 from rfl)) (ceT (show kd 41 = 6 from rfl) _) rfl aw583 aw584 hM nm35 aw585 aw28 yd_X6_timesOf ⟨rfl, rfl⟩ ⟨Nat.le_of_ble_eq_true rfl, Nat.le_of_ble_eq_true rfl⟩ rfl (Nat.le_of_ble_eq_true rfl) dX8_person_87 (fun r12 M11 h => ?_)
            exact r_iret (pc := 90) C dX8_person_90 h
          · skip
            by_cases e13 : x2 = 4
            · have h := h.2.2.2.2.1 e13
              refine r_tabIn (pc := 12) (off := 79) (tgt := 91) C 4 e13 dX8_person_12 (by decide) (by decide) (by decide) (by decide) ?_
              refine r_aload_n (pc := 91) C 0 dX8_person_91 rfl ?_
              refine r_get (pc := 92) (k := 0) (j := 4) (Cn := RX8) (T := TX8) (N := 12) C (by decide) (ce0 _) rfl iaX8 (by decide) aw29 rfl rfl dX8_person_92 ?_
              refine r_getN (pc := 95) (k := 41) (j := 12) (Cn := RX6) (T := TX6) (N := 16) C (bdT (show kd 41 = 6 from rfl)) (ceT (show kd 41 = 6 from rfl) _) rfl iaX6 (by decide) nf32 rfl rfl dX8_person_95 ?_
              refine r_iload_n (pc := 98) C 1 dX8_person_98 rfl ?_
              obtain ⟨g14, h⟩ := h
              refine q_iald (pc := 99) (k := (41 + 7)) (n := 6) (j := (Int32.toNatClampNeg x1)) C (bdT7 (show kd 41 = 6 from rfl)) (ceT7 (show kd 41 = 6 from rfl) _) g14 rfl dX8_person_99 ?_
              exact r_iret (pc := 100) C dX8_person_100 h
            · skip
              by_cases e15 : x2 = 5
              · have h := h.2.2.2.2.2.1 e15
                refine r_tabIn (pc := 12) (off := 89) (tgt := 101) C 5 e15 dX8_person_12 (by decide) (by decide) (by decide) (by decide) ?_
                refine r_aload_n (pc := 101) C 0 dX8_person_101 rfl ?_
                refine r_get (pc := 102) (k := 0) (j := 4) (Cn := RX8) (T := TX8) (N := 12) C (by decide) (ce0 _) rfl iaX8 (by decide) aw29 rfl rfl dX8_person_102 ?_
                refine r_getN (pc := 105) (k := 41) (j := 13) (Cn := RX6) (T := TX6) (N := 16) C (bdT (show kd 41 = 6 from rfl)) (ceT (show kd 41 = 6 from rfl) _) rfl iaX6 (by decide) nf34 rfl rfl dX8_person_105 ?_
                refine r_iload_n (pc := 108) C 1 dX8_person_108 rfl ?_
                obtain ⟨g16, h⟩ := h
                refine q_iald (pc := 109) (k := (41 + 8)) (n := 6) (j := (Int32.toNatClampNeg x1)) C (bdT8 (show kd 41 = 6 from rfl)) (ceT8 (show kd 41 = 6 from rfl) _) g16 rfl dX8_person_109 ?_
                exact r_iret (pc := 110) C dX8_person_110 h
              · skip
                have h := h.2.2.2.2.2.2 e4 e6 e8 e10 e13 e15
                refine r_tabOut (pc := 12) (tgt := 111) C dX8_person_12 (by have ke4 := ne_toInt (n := 0) e4 (by decide); have ke6 := ne_toInt (n := 1) e6 (by decide); have ke8 := ne_toInt (n := 2) e8 (by decide); have ke10 := ne_toInt (n := 3) e10 (by decide); have ke13 := ne_toInt (n := 4) e13 (by decide); have ke15 := ne_toInt (n := 5) e15 (by decide); omega) (by decide) ?_
                refine r_ldc (pc := 111) C aw115 dX8_person_111 ?_
                exact r_iret (pc := 113) C dX8_person_113 h
  · have h := h.2 c3
    refine r_ldc (pc := 8) C aw115 dX8_person_8 ?_
    exact r_iret (pc := 10) C dX8_person_10 h
theorem yd_X8_door : yX8_door.cls ≠ "java/lang/invoke/MethodHandle" ∧ yX8_door.cls ≠ "java/lang/invoke/VarHandle" ∧ (parseMethodDescriptor yX8_door.desc).map (fun d => d.parameters.length) = some 2 := by decide +kernel
def w_X8_door  (M : Mem) (x1 : Int32) (x2 : Int32) (Q : Int32 → Mem → Prop) : Prop :=
  w_X8_isDoor  M x1 (fun r2 M1 => ((¬ r2 = 0) → ((x2 = 0 → (vp_in x1 6 ∧ (Q (M1 (41 + 1) (Int32.toNatClampNeg x1)) M1))) ∧ (x2 = 1 → (vp_in x1 6 ∧ (Q (M1 (41 + 2) (Int32.toNatClampNeg x1)) M1))) ∧ (x2 = 2 → (w_X6_passedThrough 41 M1 x1 (fun r10 M9 => Q r10 M9))) ∧ (¬ x2 = 0 → ¬ x2 = 1 → ¬ x2 = 2 → (Q (-1000001) M1)))) ∧ ((r2 = 0) → (Q (-1000001) M1)))
abbrev rm_X8_door : Room := { frames := 9, cells := 0, slots := 0, locals := 180 }
set_option maxHeartbeats 4000000 in
set_option maxRecDepth 100000 in
theorem c_X8_door (X : Cx)  (M : Mem) (x1 : Int32) (x2 : Int32) (Q : Int32 → Mem → Prop) (h : w_X8_door  M x1 x2 Q) : Ct yX8_door cX8_door 3 (some .int) rm_X8_door X M [.ref (ad X 0), .int x1, .int x2] (Qi X Q) := by
  refine ct_of (own := RX8) (lv := [(0, .ref (ad X 0)), (1, .int x1), (2, .int x2)]) rfl (by decide) (Nat.le_of_ble_eq_true rfl) rfl ?_
  intro K C
  unfold w_X8_door at h
  refine r_aload_n (pc := 0) C 0 dX8_door_0 rfl ?_
  refine r_iload_n (pc := 1) C 1 dX8_door_1 rfl ?_
  have hM := c_X8_isDoor X  M x1 _ h
  refine q_s0 (s1 := List.reverse [.int x1] ++ .ref (ad X 0) :: []) rfl ?_
  refine r_callVi (pc := 2) (k := 0) (As := [.int x1]) (st := []) C 1 (by decide) (ce0 _) rfl aw418 aw419 hM aw417 aw420 aw2 yd_X8_isDoor ⟨rfl, rfl⟩ ⟨Nat.le_of_ble_eq_true rfl, Nat.le_of_ble_eq_true rfl⟩ rfl (Nat.le_of_ble_eq_true rfl) dX8_door_2 (fun r2 M1 h => ?_)
  refine r_if_ne (pc := 5) (tgt := 11) C dX8_door_5 (by decide) (fun c3 => ?_) (fun c3 => ?_)
  · have h := h.1 c3
    refine r_iload_n (pc := 11) C 2 dX8_door_11 rfl ?_
    by_cases e4 : x2 = 0
    · have h := h.1 e4
      refine r_tabIn (pc := 12) (off := 28) (tgt := 40) C 0 e4 dX8_door_12 (by decide) (by decide) (by decide) (by decide) ?_
      refine r_aload_n (pc := 40) C 0 dX8_door_40 rfl ?_
      refine r_get (pc := 41) (k := 0) (j := 4) (Cn := RX8) (T := TX8) (N := 12) C (by decide) (ce0 _) rfl iaX8 (by decide) aw29 rfl rfl dX8_door_41 ?_
      refine r_getN (pc := 44) (k := 41) (j := 6) (Cn := RX6) (T := TX6) (N := 16) C (bdT (show kd 41 = 6 from rfl)) (ceT (show kd 41 = 6 from rfl) _) rfl iaX6 (by decide) nf21 rfl rfl dX8_door_44 ?_
      refine r_iload_n (pc := 47) C 1 dX8_door_47 rfl ?_
      obtain ⟨g5, h⟩ := h
      refine q_iald (pc := 48) (k := (41 + 1)) (n := 6) (j := (Int32.toNatClampNeg x1)) C (bdT1 (show kd 41 = 6 from rfl)) (ceT1 (show kd 41 = 6 from rfl) _) g5 rfl dX8_door_48 ?_
      exact r_iret (pc := 49) C dX8_door_49 h
    · skip
      by_cases e6 : x2 = 1
      · have h := h.2.1 e6
        refine r_tabIn (pc := 12) (off := 38) (tgt := 50) C 1 e6 dX8_door_12 (by decide) (by decide) (by decide) (by decide) ?_
        refine r_aload_n (pc := 50) C 0 dX8_door_50 rfl ?_
        refine r_get (pc := 51) (k := 0) (j := 4) (Cn := RX8) (T := TX8) (N := 12) C (by decide) (ce0 _) rfl iaX8 (by decide) aw29 rfl rfl dX8_door_51 ?_
        refine r_getN (pc := 54) (k := 41) (j := 7) (Cn := RX6) (T := TX6) (N := 16) C (bdT (show kd 41 = 6 from rfl)) (ceT (show kd 41 = 6 from rfl) _) rfl iaX6 (by decide) nf23 rfl rfl dX8_door_54 ?_
        refine r_iload_n (pc := 57) C 1 dX8_door_57 rfl ?_
        obtain ⟨g7, h⟩ := h
        refine q_iald (pc := 58) (k := (41 + 2)) (n := 6) (j := (Int32.toNatClampNeg x1)) C (bdT2 (show kd 41 = 6 from rfl)) (ceT2 (show kd 41 = 6 from rfl) _) g7 rfl dX8_door_58 ?_
        exact r_iret (pc := 59) C dX8_door_59 h
      · skip
        by_cases e8 : x2 = 2
        · have h := h.2.2.1 e8
          refine r_tabIn (pc := 12) (off := 48) (tgt := 60) C 2 e8 dX8_door_12 (by decide) (by decide) (by decide) (by decide) ?_
          refine r_aload_n (pc := 60) C 0 dX8_door_60 rfl ?_
          refine r_get (pc := 61) (k := 0) (j := 4) (Cn := RX8) (T := TX8) (N := 12) C (by decide) (ce0 _) rfl iaX8 (by decide) aw29 rfl rfl dX8_door_61 ?_
          refine r_iload_n (pc := 64) C 1 dX8_door_64 rfl ?_
          have hM := c_X6_passedThrough X 41 (show kd 41 = 6 from rfl) M1 x1 _ h
          refine q_s0 (s1 := List.reverse [.int x1] ++ .ref (ad X 41) :: []) rfl ?_
          refine r_callVNi (pc := 65) (k := 41) (As := [.int x1]) (st := []) C 1 (bdT (show kd 41 = 6 from rfl)) (ceT (show kd 41 = 6 from rfl) _) rfl aw598 aw599 hM nm36 aw600 aw28 yd_X6_passedThrough ⟨rfl, rfl⟩ ⟨Nat.le_of_ble_eq_true rfl, Nat.le_of_ble_eq_true rfl⟩ rfl (Nat.le_of_ble_eq_true rfl) dX8_door_65 (fun r10 M9 h => ?_)
          exact r_iret (pc := 68) C dX8_door_68 h
        · skip
          have h := h.2.2.2 e4 e6 e8
          refine r_tabOut (pc := 12) (tgt := 69) C dX8_door_12 (by have ke4 := ne_toInt (n := 0) e4 (by decide); have ke6 := ne_toInt (n := 1) e6 (by decide); have ke8 := ne_toInt (n := 2) e8 (by decide); omega) (by decide) ?_
          refine r_ldc (pc := 69) C aw115 dX8_door_69 ?_
          exact r_iret (pc := 71) C dX8_door_71 h
  · have h := h.2 c3
    refine r_ldc (pc := 8) C aw115 dX8_door_8 ?_
    exact r_iret (pc := 10) C dX8_door_10 h
theorem yd_X8_votesAt : yX8_votesAt.cls ≠ "java/lang/invoke/MethodHandle" ∧ yX8_votesAt.cls ≠ "java/lang/invoke/VarHandle" ∧ (parseMethodDescriptor yX8_votesAt.desc).map (fun d => d.parameters.length) = some 3 := by decide +kernel
def w_X8_votesAt  (M : Mem) (x1 : Int32) (x2 : Int32) (x3 : Int32) (Q : Int32 → Mem → Prop) : Prop :=
  w_X2_hold 41 M x1 x2 (fun M1 => w_X2_weightsOf  M1 x3 (fun r4 M3 => Q r4 M3))
abbrev rm_X8_votesAt : Room := { frames := 12, cells := 0, slots := 0, locals := 240 }
set_option maxHeartbeats 4000000 in
set_option maxRecDepth 100000 in
theorem c_X8_votesAt (X : Cx)  (M : Mem) (x1 : Int32) (x2 : Int32) (x3 : Int32) (Q : Int32 → Mem → Prop) (h : w_X8_votesAt  M x1 x2 x3 Q) : Ct yX8_votesAt cX8_votesAt 4 (some .int) rm_X8_votesAt X M [.ref (ad X 0), .int x1, .int x2, .int x3] (Qi X Q) := by
  refine ct_of (own := RX8) (lv := [(0, .ref (ad X 0)), (1, .int x1), (2, .int x2), (3, .int x3)]) rfl (by decide) (Nat.le_of_ble_eq_true rfl) rfl ?_
  intro K C
  unfold w_X8_votesAt at h
  refine r_aload_n (pc := 0) C 0 dX8_votesAt_0 rfl ?_
  refine r_get (pc := 1) (k := 0) (j := 7) (Cn := RX8) (T := TX8) (N := 12) C (by decide) (ce0 _) rfl iaX8 (by decide) aw35 rfl rfl dX8_votesAt_1 ?_
  refine r_aload_n (pc := 4) C 0 dX8_votesAt_4 rfl ?_
  refine r_get (pc := 5) (k := 0) (j := 4) (Cn := RX8) (T := TX8) (N := 12) C (by decide) (ce0 _) rfl iaX8 (by decide) aw29 rfl rfl dX8_votesAt_5 ?_
  refine r_iload_n (pc := 8) C 1 dX8_votesAt_8 rfl ?_
  refine r_iload_n (pc := 9) C 2 dX8_votesAt_9 rfl ?_
  have hM := c_X2_hold X 41 (show kd 41 = 6 from rfl) M x1 x2 _ h
  refine q_s0 (s1 := List.reverse [.ref (ad X 41), .int x1, .int x2] ++ .ref (ad X 29) :: []) rfl ?_
  refine r_callVNv (pc := 10) (k := 29) (As := [.ref (ad X 41), .int x1, .int x2]) (st := []) C 3 (by decide) (ce29 _) rfl aw428 aw429 hM nm27 aw430 aw34 yd_X2_hold ⟨rfl, rfl⟩ ⟨Nat.le_of_ble_eq_true rfl, Nat.le_of_ble_eq_true rfl⟩ rfl (Nat.le_of_ble_eq_true rfl) dX8_votesAt_10 (fun M1 h => ?_)
  refine r_aload_n (pc := 13) C 0 dX8_votesAt_13 rfl ?_
  refine r_get (pc := 14) (k := 0) (j := 7) (Cn := RX8) (T := TX8) (N := 12) C (by decide) (ce0 _) rfl iaX8 (by decide) aw35 rfl rfl dX8_votesAt_14 ?_
  refine r_iload_n (pc := 17) C 3 dX8_votesAt_17 rfl ?_
  have hM := c_X2_weightsOf X  M1 x3 _ h
  refine q_s0 (s1 := List.reverse [.int x3] ++ .ref (ad X 29) :: []) rfl ?_
  refine r_callVNi (pc := 18) (k := 29) (As := [.int x3]) (st := []) C 1 (by decide) (ce29 _) rfl aw617 aw618 hM nm40 aw619 aw34 yd_X2_weightsOf ⟨rfl, rfl⟩ ⟨Nat.le_of_ble_eq_true rfl, Nat.le_of_ble_eq_true rfl⟩ rfl (Nat.le_of_ble_eq_true rfl) dX8_votesAt_18 (fun r4 M3 h => ?_)
  exact r_iret (pc := 21) C dX8_votesAt_21 h
theorem yd_X8_at : yX8_at.cls ≠ "java/lang/invoke/MethodHandle" ∧ yX8_at.cls ≠ "java/lang/invoke/VarHandle" ∧ (parseMethodDescriptor yX8_at.desc).map (fun d => d.parameters.length) = some 3 := by decide +kernel
def w_X8_at  (M : Mem) (x1 : Int32) (x2 : Int32) (x3 : Int32) (Q : Int32 → Mem → Prop) : Prop :=
  w_X8_isPerson  M x1 (fun r2 M1 => ((r2 = 0) → (Q (-1000001) M1)) ∧ ((¬ r2 = 0) → (w_X8_isDoor  M1 x2 (fun r5 M4 => ((¬ r5 = 0) → (w_X6_cellOf  M4 x1 x2 (fun r8 M7 => (x3 = 0 → (vp_in r8 36 ∧ (Q (M7 (41 + 9) (Int32.toNatClampNeg r8)) M7))) ∧ (x3 = 1 → (vp_in r8 36 ∧ (Q (M7 (41 + 10) (Int32.toNatClampNeg r8)) M7))) ∧ (x3 = 2 → (w_X6_freshIn 41 M7 r8 (fun r15 M14 => Q r15 M14))) ∧ (x3 = 3 → (w_X6_weightOf 41 M7 x1 x2 (fun r18 M17 => Q r18 M17))) ∧ (x3 = 4 → (w_X8_opens 41 M7 x1 x2 (fun r21 M20 => ((r21 = 0) → (Q 0 M20)) ∧ ((¬ r21 = 0) → (Q 1 M20))))) ∧ (x3 = 5 → (w_X8_votesAt  M7 x1 x2 1 (fun r25 M24 => Q r25 M24))) ∧ (x3 = 6 → (w_X8_votesAt  M7 x1 x2 (-1) (fun r28 M27 => Q r28 M27))) ∧ (¬ x3 = 0 → ¬ x3 = 1 → ¬ x3 = 2 → ¬ x3 = 3 → ¬ x3 = 4 → ¬ x3 = 5 → ¬ x3 = 6 → (Q (-1000001) M7))))) ∧ ((r5 = 0) → (Q (-1000001) M4))))))
abbrev rm_X8_at : Room := { frames := 15, cells := 0, slots := 0, locals := 300 }
set_option maxHeartbeats 4000000 in
set_option maxRecDepth 100000 in
theorem c_X8_at (X : Cx)  (M : Mem) (x1 : Int32) (x2 : Int32) (x3 : Int32) (Q : Int32 → Mem → Prop) (h : w_X8_at  M x1 x2 x3 Q) : Ct yX8_at cX8_at 5 (some .int) rm_X8_at X M [.ref (ad X 0), .int x1, .int x2, .int x3] (Qi X Q) := by
  refine ct_of (own := RX8) (lv := [(0, .ref (ad X 0)), (1, .int x1), (2, .int x2), (3, .int x3)]) rfl (by decide) (Nat.le_of_ble_eq_true rfl) rfl ?_
  intro K C
  unfold w_X8_at at h
  refine r_aload_n (pc := 0) C 0 dX8_at_0 rfl ?_
  refine r_iload_n (pc := 1) C 1 dX8_at_1 rfl ?_
  have hM := c_X8_isPerson X  M x1 _ h
  refine q_s0 (s1 := List.reverse [.int x1] ++ .ref (ad X 0) :: []) rfl ?_
  refine r_callVi (pc := 2) (k := 0) (As := [.int x1]) (st := []) C 1 (by decide) (ce0 _) rfl aw414 aw415 hM aw413 aw416 aw2 yd_X8_isPerson ⟨rfl, rfl⟩ ⟨Nat.le_of_ble_eq_true rfl, Nat.le_of_ble_eq_true rfl⟩ rfl (Nat.le_of_ble_eq_true rfl) dX8_at_2 (fun r2 M1 h => ?_)
  refine r_if_eq (pc := 5) (tgt := 16) C dX8_at_5 (by decide) (fun c3 => ?_) (fun c3 => ?_)
  · have h := h.1 c3
    refine r_ldc (pc := 16) C aw115 dX8_at_16 ?_
    exact r_iret (pc := 18) C dX8_at_18 h
  · have h := h.2 c3
    refine r_aload_n (pc := 8) C 0 dX8_at_8 rfl ?_
    refine r_iload_n (pc := 9) C 2 dX8_at_9 rfl ?_
    have hM := c_X8_isDoor X  M1 x2 _ h
    refine q_s0 (s1 := List.reverse [.int x2] ++ .ref (ad X 0) :: []) rfl ?_
    refine r_callVi (pc := 10) (k := 0) (As := [.int x2]) (st := []) C 1 (by decide) (ce0 _) rfl aw418 aw419 hM aw417 aw420 aw2 yd_X8_isDoor ⟨rfl, rfl⟩ ⟨Nat.le_of_ble_eq_true rfl, Nat.le_of_ble_eq_true rfl⟩ rfl (Nat.le_of_ble_eq_true rfl) dX8_at_10 (fun r5 M4 h => ?_)
    refine r_if_ne (pc := 13) (tgt := 19) C dX8_at_13 (by decide) (fun c6 => ?_) (fun c6 => ?_)
    · have h := h.1 c6
      refine r_iload_n (pc := 19) C 1 dX8_at_19 rfl ?_
      refine r_iload_n (pc := 20) C 2 dX8_at_20 rfl ?_
      have hM := c_X6_cellOf X  M4 x1 x2 _ h
      refine q_s0 (s1 := List.reverse [.int x1, .int x2] ++ []) rfl ?_
      refine r_callSNi (pc := 21) (As := [.int x1, .int x2]) (st := []) C 2 hM nm37 aw287 aw288 aw28 yd_X6_cellOf ⟨rfl, rfl⟩ ⟨Nat.le_of_ble_eq_true rfl, Nat.le_of_ble_eq_true rfl⟩ rfl (Nat.le_of_ble_eq_true rfl) dX8_at_21 (fun r8 M7 h => ?_)
      refine r_istore (pc := 24) (lv2 := [(4, .int r8), (0, .ref (ad X 0)), (1, .int x1), (2, .int x2), (3, .int x3)]) C dX8_at_24 (by decide) rfl ?_
      refine r_iload_n (pc := 26) C 4 dX8_at_26 rfl ?_
      by_cases e9 : x3 = 0
      · have h := h.1 e9
        refine r_tabIn (pc := 27) (off := 41) (tgt := 68) C 0 e9 dX8_at_27 (by decide) (by decide) (by decide) (by decide) ?_
        refine r_aload_n (pc := 68) C 1 dX8_at_68 rfl ?_
        refine r_get (pc := 69) (k := 0) (j := 4) (Cn := RX8) (T := TX8) (N := 12) C (by decide) (ce0 _) rfl iaX8 (by decide) aw29 rfl rfl dX8_at_69 ?_
        refine r_getN (pc := 72) (k := 41) (j := 14) (Cn := RX6) (T := TX6) (N := 16) C (bdT (show kd 41 = 6 from rfl)) (ceT (show kd 41 = 6 from rfl) _) rfl iaX6 (by decide) nf36 rfl rfl dX8_at_72 ?_
        refine r_iload (pc := 75) C 0 dX8_at_75 rfl ?_
        obtain ⟨g10, h⟩ := h
        refine q_iald (pc := 77) (k := (41 + 9)) (n := 36) (j := (Int32.toNatClampNeg r8)) C (bdT9 (show kd 41 = 6 from rfl)) (ceT9 (show kd 41 = 6 from rfl) _) g10 rfl dX8_at_77 ?_
        exact r_iret (pc := 78) C dX8_at_78 h
      · skip
        by_cases e11 : x3 = 1
        · have h := h.2.1 e11
          refine r_tabIn (pc := 27) (off := 52) (tgt := 79) C 1 e11 dX8_at_27 (by decide) (by decide) (by decide) (by decide) ?_
          refine r_aload_n (pc := 79) C 1 dX8_at_79 rfl ?_
          refine r_get (pc := 80) (k := 0) (j := 4) (Cn := RX8) (T := TX8) (N := 12) C (by decide) (ce0 _) rfl iaX8 (by decide) aw29 rfl rfl dX8_at_80 ?_
          refine r_getN (pc := 83) (k := 41) (j := 15) (Cn := RX6) (T := TX6) (N := 16) C (bdT (show kd 41 = 6 from rfl)) (ceT (show kd 41 = 6 from rfl) _) rfl iaX6 (by decide) nf38 rfl rfl dX8_at_83 ?_
          refine r_iload (pc := 86) C 0 dX8_at_86 rfl ?_
          obtain ⟨g12, h⟩ := h
          refine q_iald (pc := 88) (k := (41 + 10)) (n := 36) (j := (Int32.toNatClampNeg r8)) C (bdT10 (show kd 41 = 6 from rfl)) (ceT10 (show kd 41 = 6 from rfl) _) g12 rfl dX8_at_88 ?_
          exact r_iret (pc := 89) C dX8_at_89 h
        · skip
          by_cases e13 : x3 = 2
          · have h := h.2.2.1 e13
            refine r_tabIn (pc := 27) (off := 63) (tgt := 90) C 2 e13 dX8_at_27 (by decide) (by decide) (by decide) (by decide) ?_
            refine r_aload_n (pc := 90) C 1 dX8_at_90 rfl ?_
            refine r_get (pc := 91) (k := 0) (j := 4) (Cn := RX8) (T := TX8) (N := 12) C (by decide) (ce0 _) rfl iaX8 (by decide) aw29 rfl rfl dX8_at_91 ?_
            refine r_iload (pc := 94) C 0 dX8_at_94 rfl ?_
            have hM := c_X6_freshIn X 41 (show kd 41 = 6 from rfl) M7 r8 _ h
            refine q_s0 (s1 := List.reverse [.int r8] ++ .ref (ad X 41) :: []) rfl ?_
            refine r_callVNi (pc := 96) (k := 41) (As := [.int r8]) (st := []) C 1 (bdT (show kd 41 = 6 from rfl)) (ceT (show kd 41 = 6 from rfl) _) rfl aw436 aw437 hM nm38 aw438 aw28 yd_X6_freshIn ⟨rfl, rfl⟩ ⟨Nat.le_of_ble_eq_true rfl, Nat.le_of_ble_eq_true rfl⟩ rfl (Nat.le_of_ble_eq_true rfl) dX8_at_96 (fun r15 M14 h => ?_)
            exact r_iret (pc := 99) C dX8_at_99 h
          · skip
            by_cases e16 : x3 = 3
            · have h := h.2.2.2.1 e16
              refine r_tabIn (pc := 27) (off := 73) (tgt := 100) C 3 e16 dX8_at_27 (by decide) (by decide) (by decide) (by decide) ?_
              refine r_aload_n (pc := 100) C 1 dX8_at_100 rfl ?_
              refine r_get (pc := 101) (k := 0) (j := 4) (Cn := RX8) (T := TX8) (N := 12) C (by decide) (ce0 _) rfl iaX8 (by decide) aw29 rfl rfl dX8_at_101 ?_
              refine r_iload_n (pc := 104) C 2 dX8_at_104 rfl ?_
              refine r_iload_n (pc := 105) C 3 dX8_at_105 rfl ?_
              have hM := c_X6_weightOf X 41 (show kd 41 = 6 from rfl) M7 x1 x2 _ h
              refine q_s0 (s1 := List.reverse [.int x1, .int x2] ++ .ref (ad X 41) :: []) rfl ?_
              refine r_callVNi (pc := 106) (k := 41) (As := [.int x1, .int x2]) (st := []) C 2 (bdT (show kd 41 = 6 from rfl)) (ceT (show kd 41 = 6 from rfl) _) rfl aw432 aw433 hM nm39 aw434 aw28 yd_X6_weightOf ⟨rfl, rfl⟩ ⟨Nat.le_of_ble_eq_true rfl, Nat.le_of_ble_eq_true rfl⟩ rfl (Nat.le_of_ble_eq_true rfl) dX8_at_106 (fun r18 M17 h => ?_)
              exact r_iret (pc := 109) C dX8_at_109 h
            · skip
              by_cases e19 : x3 = 4
              · have h := h.2.2.2.2.1 e19
                refine r_tabIn (pc := 27) (off := 83) (tgt := 110) C 4 e19 dX8_at_27 (by decide) (by decide) (by decide) (by decide) ?_
                refine r_aload_n (pc := 110) C 1 dX8_at_110 rfl ?_
                refine r_aload_n (pc := 111) C 1 dX8_at_111 rfl ?_
                refine r_get (pc := 112) (k := 0) (j := 4) (Cn := RX8) (T := TX8) (N := 12) C (by decide) (ce0 _) rfl iaX8 (by decide) aw29 rfl rfl dX8_at_112 ?_
                refine r_iload_n (pc := 115) C 2 dX8_at_115 rfl ?_
                refine r_iload_n (pc := 116) C 3 dX8_at_116 rfl ?_
                have hM := c_X8_opens X 41 (show kd 41 = 6 from rfl) M7 x1 x2 _ h
                refine q_s0 (s1 := List.reverse [.ref (ad X 41), .int x1, .int x2] ++ .ref (ad X 0) :: []) rfl ?_
                refine r_callVi (pc := 117) (k := 0) (As := [.ref (ad X 41), .int x1, .int x2]) (st := []) C 3 (by decide) (ce0 _) rfl aw425 aw426 hM aw424 aw427 aw2 yd_X8_opens ⟨rfl, rfl⟩ ⟨Nat.le_of_ble_eq_true rfl, Nat.le_of_ble_eq_true rfl⟩ rfl (Nat.le_of_ble_eq_true rfl) dX8_at_117 (fun r21 M20 h => ?_)
                refine r_if_eq (pc := 120) (tgt := 127) C dX8_at_120 (by decide) (fun c22 => ?_) (fun c22 => ?_)
                · have h := h.1 c22
                  refine r_iconst (pc := 127) (v := 0) C dX8_at_127 (by decide) ?_
                  exact r_iret (pc := 128) C dX8_at_128 h
                · have h := h.2 c22
                  refine r_iconst (pc := 123) (v := 1) C dX8_at_123 (by decide) ?_
                  refine r_goto (pc := 124) (tgt := 128) C dX8_at_124 (by decide) ?_
                  exact r_iret (pc := 128) C dX8_at_128 h
              · skip
                by_cases e23 : x3 = 5
                · have h := h.2.2.2.2.2.1 e23
                  refine r_tabIn (pc := 27) (off := 102) (tgt := 129) C 5 e23 dX8_at_27 (by decide) (by decide) (by decide) (by decide) ?_
                  refine r_aload_n (pc := 129) C 1 dX8_at_129 rfl ?_
                  refine r_iload_n (pc := 130) C 2 dX8_at_130 rfl ?_
                  refine r_iload_n (pc := 131) C 3 dX8_at_131 rfl ?_
                  refine r_iconst (pc := 132) (v := 1) C dX8_at_132 (by decide) ?_
                  have hM := c_X8_votesAt X  M7 x1 x2 1 _ h
                  refine q_s0 (s1 := List.reverse [.int x1, .int x2, .int 1] ++ .ref (ad X 0) :: []) rfl ?_
                  refine r_callVi (pc := 133) (k := 0) (As := [.int x1, .int x2, .int 1]) (st := []) C 3 (by decide) (ce0 _) rfl aw614 aw615 hM aw613 aw616 aw2 yd_X8_votesAt ⟨rfl, rfl⟩ ⟨Nat.le_of_ble_eq_true rfl, Nat.le_of_ble_eq_true rfl⟩ rfl (Nat.le_of_ble_eq_true rfl) dX8_at_133 (fun r25 M24 h => ?_)
                  exact r_iret (pc := 136) C dX8_at_136 h
                · skip
                  by_cases e26 : x3 = 6
                  · have h := h.2.2.2.2.2.2.1 e26
                    refine r_tabIn (pc := 27) (off := 110) (tgt := 137) C 6 e26 dX8_at_27 (by decide) (by decide) (by decide) (by decide) ?_
                    refine r_aload_n (pc := 137) C 1 dX8_at_137 rfl ?_
                    refine r_iload_n (pc := 138) C 2 dX8_at_138 rfl ?_
                    refine r_iload_n (pc := 139) C 3 dX8_at_139 rfl ?_
                    refine r_iconst (pc := 140) (v := (-1)) C dX8_at_140 (by decide) ?_
                    have hM := c_X8_votesAt X  M7 x1 x2 (-1) _ h
                    refine q_s0 (s1 := List.reverse [.int x1, .int x2, .int (-1)] ++ .ref (ad X 0) :: []) rfl ?_
                    refine r_callVi (pc := 141) (k := 0) (As := [.int x1, .int x2, .int (-1)]) (st := []) C 3 (by decide) (ce0 _) rfl aw614 aw615 hM aw613 aw616 aw2 yd_X8_votesAt ⟨rfl, rfl⟩ ⟨Nat.le_of_ble_eq_true rfl, Nat.le_of_ble_eq_true rfl⟩ rfl (Nat.le_of_ble_eq_true rfl) dX8_at_141 (fun r28 M27 h => ?_)
                    exact r_iret (pc := 144) C dX8_at_144 h
                  · skip
                    have h := h.2.2.2.2.2.2.2 e9 e11 e13 e16 e19 e23 e26
                    refine r_tabOut (pc := 27) (tgt := 145) C dX8_at_27 (by have ke9 := ne_toInt (n := 0) e9 (by decide); have ke11 := ne_toInt (n := 1) e11 (by decide); have ke13 := ne_toInt (n := 2) e13 (by decide); have ke16 := ne_toInt (n := 3) e16 (by decide); have ke19 := ne_toInt (n := 4) e19 (by decide); have ke23 := ne_toInt (n := 5) e23 (by decide); have ke26 := ne_toInt (n := 6) e26 (by decide); omega) (by decide) ?_
                    refine r_ldc (pc := 145) C aw115 dX8_at_145 ?_
                    exact r_iret (pc := 147) C dX8_at_147 h
    · have h := h.2 c6
      refine r_ldc (pc := 16) C aw115 dX8_at_16 ?_
      exact r_iret (pc := 18) C dX8_at_18 h
theorem yd_X8_favour : yX8_favour.cls ≠ "java/lang/invoke/MethodHandle" ∧ yX8_favour.cls ≠ "java/lang/invoke/VarHandle" ∧ (parseMethodDescriptor yX8_favour.desc).map (fun d => d.parameters.length) = some 2 := by decide +kernel
def w_X8_favour  (M : Mem) (x1 : Int32) (x2 : Int32) (Q : Int32 → Mem → Prop) : Prop :=
  w_X8_isPerson  M x1 (fun r2 M1 => ((r2 = 0) → (Q (-1000001) M1)) ∧ ((¬ r2 = 0) → (w_X8_isPerson  M1 x2 (fun r5 M4 => ((r5 = 0) → (Q (-1000001) M4)) ∧ ((¬ r5 = 0) → (((¬ x1 = x2) → (w_X6_favourOf 41 M4 x1 x2 (fun r9 M8 => Q r9 M8))) ∧ ((x1 = x2) → (Q (-1000001) M4))))))))
abbrev rm_X8_favour : Room := { frames := 9, cells := 0, slots := 0, locals := 180 }
set_option maxHeartbeats 4000000 in
set_option maxRecDepth 100000 in
theorem c_X8_favour (X : Cx)  (M : Mem) (x1 : Int32) (x2 : Int32) (Q : Int32 → Mem → Prop) (h : w_X8_favour  M x1 x2 Q) : Ct yX8_favour cX8_favour 3 (some .int) rm_X8_favour X M [.ref (ad X 0), .int x1, .int x2] (Qi X Q) := by
  refine ct_of (own := RX8) (lv := [(0, .ref (ad X 0)), (1, .int x1), (2, .int x2)]) rfl (by decide) (Nat.le_of_ble_eq_true rfl) rfl ?_
  intro K C
  unfold w_X8_favour at h
  refine r_aload_n (pc := 0) C 0 dX8_favour_0 rfl ?_
  refine r_iload_n (pc := 1) C 1 dX8_favour_1 rfl ?_
  have hM := c_X8_isPerson X  M x1 _ h
  refine q_s0 (s1 := List.reverse [.int x1] ++ .ref (ad X 0) :: []) rfl ?_
  refine r_callVi (pc := 2) (k := 0) (As := [.int x1]) (st := []) C 1 (by decide) (ce0 _) rfl aw414 aw415 hM aw413 aw416 aw2 yd_X8_isPerson ⟨rfl, rfl⟩ ⟨Nat.le_of_ble_eq_true rfl, Nat.le_of_ble_eq_true rfl⟩ rfl (Nat.le_of_ble_eq_true rfl) dX8_favour_2 (fun r2 M1 h => ?_)
  refine r_if_eq (pc := 5) (tgt := 21) C dX8_favour_5 (by decide) (fun c3 => ?_) (fun c3 => ?_)
  · have h := h.1 c3
    refine r_ldc (pc := 21) C aw115 dX8_favour_21 ?_
    exact r_iret (pc := 23) C dX8_favour_23 h
  · have h := h.2 c3
    refine r_aload_n (pc := 8) C 0 dX8_favour_8 rfl ?_
    refine r_iload_n (pc := 9) C 2 dX8_favour_9 rfl ?_
    have hM := c_X8_isPerson X  M1 x2 _ h
    refine q_s0 (s1 := List.reverse [.int x2] ++ .ref (ad X 0) :: []) rfl ?_
    refine r_callVi (pc := 10) (k := 0) (As := [.int x2]) (st := []) C 1 (by decide) (ce0 _) rfl aw414 aw415 hM aw413 aw416 aw2 yd_X8_isPerson ⟨rfl, rfl⟩ ⟨Nat.le_of_ble_eq_true rfl, Nat.le_of_ble_eq_true rfl⟩ rfl (Nat.le_of_ble_eq_true rfl) dX8_favour_10 (fun r5 M4 h => ?_)
    refine r_if_eq (pc := 13) (tgt := 21) C dX8_favour_13 (by decide) (fun c6 => ?_) (fun c6 => ?_)
    · have h := h.1 c6
      refine r_ldc (pc := 21) C aw115 dX8_favour_21 ?_
      exact r_iret (pc := 23) C dX8_favour_23 h
    · have h := h.2 c6
      refine r_iload_n (pc := 16) C 1 dX8_favour_16 rfl ?_
      refine r_iload_n (pc := 17) C 2 dX8_favour_17 rfl ?_
      refine r_icmp_ne (pc := 18) (tgt := 24) C dX8_favour_18 (by decide) (fun c7 => ?_) (fun c7 => ?_)
      · have h := h.1 c7
        refine r_aload_n (pc := 24) C 0 dX8_favour_24 rfl ?_
        refine r_get (pc := 25) (k := 0) (j := 4) (Cn := RX8) (T := TX8) (N := 12) C (by decide) (ce0 _) rfl iaX8 (by decide) aw29 rfl rfl dX8_favour_25 ?_
        refine r_iload_n (pc := 28) C 1 dX8_favour_28 rfl ?_
        refine r_iload_n (pc := 29) C 2 dX8_favour_29 rfl ?_
        have hM := c_X6_favourOf X 41 (show kd 41 = 6 from rfl) M4 x1 x2 _ h
        refine q_s0 (s1 := List.reverse [.int x1, .int x2] ++ .ref (ad X 41) :: []) rfl ?_
        refine r_callVNi (pc := 30) (k := 41) (As := [.int x1, .int x2]) (st := []) C 2 (bdT (show kd 41 = 6 from rfl)) (ceT (show kd 41 = 6 from rfl) _) rfl aw439 aw440 hM nm41 aw441 aw28 yd_X6_favourOf ⟨rfl, rfl⟩ ⟨Nat.le_of_ble_eq_true rfl, Nat.le_of_ble_eq_true rfl⟩ rfl (Nat.le_of_ble_eq_true rfl) dX8_favour_30 (fun r9 M8 h => ?_)
        exact r_iret (pc := 33) C dX8_favour_33 h
      · have h := h.2 c7
        refine r_ldc (pc := 21) C aw115 dX8_favour_21 ?_
        exact r_iret (pc := 23) C dX8_favour_23 h
theorem yd_X8_way : yX8_way.cls ≠ "java/lang/invoke/MethodHandle" ∧ yX8_way.cls ≠ "java/lang/invoke/VarHandle" ∧ (parseMethodDescriptor yX8_way.desc).map (fun d => d.parameters.length) = some 3 := by decide +kernel
def w_X8_way  (M : Mem) (x1 : Int32) (x2 : Int32) (x3 : Int32) (Q : Int32 → Mem → Prop) : Prop :=
  w_X8_isPerson  M x1 (fun r2 M1 => ((r2 = 0) → (Q (-1000001) M1)) ∧ ((¬ r2 = 0) → (w_X8_isRoom  M1 x2 (fun r5 M4 => ((r5 = 0) → (Q (-1000001) M4)) ∧ ((¬ r5 = 0) → (w_X8_within  M4 x3 2 (fun r8 M7 => ((¬ r8 = 0) → (w_X7_take 41 M7 x1 (fun M10 => w_X7_measureFrom  M10 x2 (fun M12 => vp_in x1 6 ∧ (∀ v15 : Int32, v15 = (M12 (41 + 4) (Int32.toNatClampNeg x1)) → (((¬ x3 = 0) → (w_X7_firstDoorFrom  M12 v15 (fun r18 M17 => Q r18 M17))) ∧ ((x3 = 0) → (vp_in v15 6 ∧ (Q (M12 36 (Int32.toNatClampNeg v15)) M12))))))))) ∧ ((r8 = 0) → (Q (-1000001) M7)))))))))
abbrev rm_X8_way : Room := { frames := 15, cells := 0, slots := 0, locals := 300 }
set_option maxHeartbeats 4000000 in
set_option maxRecDepth 100000 in
theorem c_X8_way (X : Cx)  (M : Mem) (x1 : Int32) (x2 : Int32) (x3 : Int32) (Q : Int32 → Mem → Prop) (h : w_X8_way  M x1 x2 x3 Q) : Ct yX8_way cX8_way 5 (some .int) rm_X8_way X M [.ref (ad X 0), .int x1, .int x2, .int x3] (Qi X Q) := by
  refine ct_of (own := RX8) (lv := [(0, .ref (ad X 0)), (1, .int x1), (2, .int x2), (3, .int x3)]) rfl (by decide) (Nat.le_of_ble_eq_true rfl) rfl ?_
  intro K C
  unfold w_X8_way at h
  refine r_aload_n (pc := 0) C 0 dX8_way_0 rfl ?_
  refine r_iload_n (pc := 1) C 1 dX8_way_1 rfl ?_
  have hM := c_X8_isPerson X  M x1 _ h
  refine q_s0 (s1 := List.reverse [.int x1] ++ .ref (ad X 0) :: []) rfl ?_
  refine r_callVi (pc := 2) (k := 0) (As := [.int x1]) (st := []) C 1 (by decide) (ce0 _) rfl aw414 aw415 hM aw413 aw416 aw2 yd_X8_isPerson ⟨rfl, rfl⟩ ⟨Nat.le_of_ble_eq_true rfl, Nat.le_of_ble_eq_true rfl⟩ rfl (Nat.le_of_ble_eq_true rfl) dX8_way_2 (fun r2 M1 h => ?_)
  refine r_if_eq (pc := 5) (tgt := 24) C dX8_way_5 (by decide) (fun c3 => ?_) (fun c3 => ?_)
  · have h := h.1 c3
    refine r_ldc (pc := 24) C aw115 dX8_way_24 ?_
    exact r_iret (pc := 26) C dX8_way_26 h
  · have h := h.2 c3
    refine r_aload_n (pc := 8) C 0 dX8_way_8 rfl ?_
    refine r_iload_n (pc := 9) C 2 dX8_way_9 rfl ?_
    have hM := c_X8_isRoom X  M1 x2 _ h
    refine q_s0 (s1 := List.reverse [.int x2] ++ .ref (ad X 0) :: []) rfl ?_
    refine r_callVi (pc := 10) (k := 0) (As := [.int x2]) (st := []) C 1 (by decide) (ce0 _) rfl aw568 aw569 hM aw567 aw570 aw2 yd_X8_isRoom ⟨rfl, rfl⟩ ⟨Nat.le_of_ble_eq_true rfl, Nat.le_of_ble_eq_true rfl⟩ rfl (Nat.le_of_ble_eq_true rfl) dX8_way_10 (fun r5 M4 h => ?_)
    refine r_if_eq (pc := 13) (tgt := 24) C dX8_way_13 (by decide) (fun c6 => ?_) (fun c6 => ?_)
    · have h := h.1 c6
      refine r_ldc (pc := 24) C aw115 dX8_way_24 ?_
      exact r_iret (pc := 26) C dX8_way_26 h
    · have h := h.2 c6
      refine r_iload_n (pc := 16) C 3 dX8_way_16 rfl ?_
      refine r_iconst (pc := 17) (v := 2) C dX8_way_17 (by decide) ?_
      have hM := c_X8_within X  M4 x3 2 _ h
      refine q_s0 (s1 := List.reverse [.int x3, .int 2] ++ []) rfl ?_
      refine r_callSi (pc := 18) (As := [.int x3, .int 2]) (st := []) C 2 hM aw116 aw117 aw118 aw2 yd_X8_within ⟨rfl, rfl⟩ ⟨Nat.le_of_ble_eq_true rfl, Nat.le_of_ble_eq_true rfl⟩ rfl (Nat.le_of_ble_eq_true rfl) dX8_way_18 (fun r8 M7 h => ?_)
      refine r_if_ne (pc := 21) (tgt := 27) C dX8_way_21 (by decide) (fun c9 => ?_) (fun c9 => ?_)
      · have h := h.1 c9
        refine r_aload_n (pc := 27) C 0 dX8_way_27 rfl ?_
        refine r_get (pc := 28) (k := 0) (j := 8) (Cn := RX8) (T := TX8) (N := 12) C (by decide) (ce0 _) rfl iaX8 (by decide) aw39 rfl rfl dX8_way_28 ?_
        refine r_aload_n (pc := 31) C 0 dX8_way_31 rfl ?_
        refine r_get (pc := 32) (k := 0) (j := 4) (Cn := RX8) (T := TX8) (N := 12) C (by decide) (ce0 _) rfl iaX8 (by decide) aw29 rfl rfl dX8_way_32 ?_
        refine r_aload_n (pc := 35) C 0 dX8_way_35 rfl ?_
        refine r_get (pc := 36) (k := 0) (j := 7) (Cn := RX8) (T := TX8) (N := 12) C (by decide) (ce0 _) rfl iaX8 (by decide) aw35 rfl rfl dX8_way_36 ?_
        refine r_iload_n (pc := 39) C 1 dX8_way_39 rfl ?_
        have hM := c_X7_take X 41 (show kd 41 = 6 from rfl) M7 x1 _ h
        refine q_s0 (s1 := List.reverse [.ref (ad X 41), .ref (ad X 29), .int x1] ++ .ref (ad X 32) :: []) rfl ?_
        refine r_callVNv (pc := 40) (k := 32) (As := [.ref (ad X 41), .ref (ad X 29), .int x1]) (st := []) C 3 (by decide) (ce32 _) rfl aw636 aw637 hM nm42 aw638 aw38 yd_X7_take ⟨rfl, rfl⟩ ⟨Nat.le_of_ble_eq_true rfl, Nat.le_of_ble_eq_true rfl⟩ rfl (Nat.le_of_ble_eq_true rfl) dX8_way_40 (fun M10 h => ?_)
        refine r_aload_n (pc := 43) C 0 dX8_way_43 rfl ?_
        refine r_get (pc := 44) (k := 0) (j := 8) (Cn := RX8) (T := TX8) (N := 12) C (by decide) (ce0 _) rfl iaX8 (by decide) aw39 rfl rfl dX8_way_44 ?_
        refine r_iload_n (pc := 47) C 2 dX8_way_47 rfl ?_
        have hM := c_X7_measureFrom X  M10 x2 _ h
        refine q_s0 (s1 := List.reverse [.int x2] ++ .ref (ad X 32) :: []) rfl ?_
        refine r_callVNv (pc := 48) (k := 32) (As := [.int x2]) (st := []) C 1 (by decide) (ce32 _) rfl aw644 aw645 hM nm45 aw646 aw38 yd_X7_measureFrom ⟨rfl, rfl⟩ ⟨Nat.le_of_ble_eq_true rfl, Nat.le_of_ble_eq_true rfl⟩ rfl (Nat.le_of_ble_eq_true rfl) dX8_way_48 (fun M12 h => ?_)
        refine r_aload_n (pc := 51) C 0 dX8_way_51 rfl ?_
        refine r_get (pc := 52) (k := 0) (j := 4) (Cn := RX8) (T := TX8) (N := 12) C (by decide) (ce0 _) rfl iaX8 (by decide) aw29 rfl rfl dX8_way_52 ?_
        refine r_getN (pc := 55) (k := 41) (j := 9) (Cn := RX6) (T := TX6) (N := 16) C (bdT (show kd 41 = 6 from rfl)) (ceT (show kd 41 = 6 from rfl) _) rfl iaX6 (by decide) nf26 rfl rfl dX8_way_55 ?_
        refine r_iload_n (pc := 58) C 1 dX8_way_58 rfl ?_
        obtain ⟨g14, h⟩ := h
        refine q_iald (pc := 59) (k := (41 + 4)) (n := 6) (j := (Int32.toNatClampNeg x1)) C (bdT4 (show kd 41 = 6 from rfl)) (ceT4 (show kd 41 = 6 from rfl) _) g14 rfl dX8_way_59 ?_
        refine r_topi (fun v15 ev15 => ?_)
        replace h := h v15 ev15
        refine r_istore (pc := 60) (lv2 := [(4, .int v15), (0, .ref (ad X 0)), (1, .int x1), (2, .int x2), (3, .int x3)]) C dX8_way_60 (by decide) rfl ?_
        refine r_iload_n (pc := 62) C 4 dX8_way_62 rfl ?_
        refine r_if_ne (pc := 63) (tgt := 79) C dX8_way_63 (by decide) (fun c16 => ?_) (fun c16 => ?_)
        · have h := h.1 c16
          refine r_aload_n (pc := 79) C 1 dX8_way_79 rfl ?_
          refine r_get (pc := 80) (k := 0) (j := 8) (Cn := RX8) (T := TX8) (N := 12) C (by decide) (ce0 _) rfl iaX8 (by decide) aw39 rfl rfl dX8_way_80 ?_
          refine r_iload (pc := 83) C 0 dX8_way_83 rfl ?_
          have hM := c_X7_firstDoorFrom X  M12 v15 _ h
          refine q_s0 (s1 := List.reverse [.int v15] ++ .ref (ad X 32) :: []) rfl ?_
          refine r_callVNi (pc := 85) (k := 32) (As := [.int v15]) (st := []) C 1 (by decide) (ce32 _) rfl aw653 aw654 hM nm46 aw655 aw38 yd_X7_firstDoorFrom ⟨rfl, rfl⟩ ⟨Nat.le_of_ble_eq_true rfl, Nat.le_of_ble_eq_true rfl⟩ rfl (Nat.le_of_ble_eq_true rfl) dX8_way_85 (fun r18 M17 h => ?_)
          exact r_iret (pc := 88) C dX8_way_88 h
        · have h := h.2 c16
          refine r_aload_n (pc := 66) C 1 dX8_way_66 rfl ?_
          refine r_get (pc := 67) (k := 0) (j := 8) (Cn := RX8) (T := TX8) (N := 12) C (by decide) (ce0 _) rfl iaX8 (by decide) aw39 rfl rfl dX8_way_67 ?_
          refine r_getN (pc := 70) (k := 32) (j := 3) (Cn := RX7) (T := TX7) (N := 5) C (by decide) (ce32 _) rfl iaX7 (by decide) nf41 rfl rfl dX8_way_70 ?_
          refine r_iload (pc := 73) C 0 dX8_way_73 rfl ?_
          obtain ⟨g19, h⟩ := h
          refine q_iald (pc := 75) (k := 36) (n := 6) (j := (Int32.toNatClampNeg v15)) C (by decide) (ce36 _) g19 rfl dX8_way_75 ?_
          refine r_goto (pc := 76) (tgt := 88) C dX8_way_76 (by decide) ?_
          exact r_iret (pc := 88) C dX8_way_88 h
      · have h := h.2 c9
        refine r_ldc (pc := 24) C aw115 dX8_way_24 ?_
        exact r_iret (pc := 26) C dX8_way_26 h
theorem yd_X8_roomsReached : yX8_roomsReached.cls ≠ "java/lang/invoke/MethodHandle" ∧ yX8_roomsReached.cls ≠ "java/lang/invoke/VarHandle" ∧ (parseMethodDescriptor yX8_roomsReached.desc).map (fun d => d.parameters.length) = some 1 := by decide +kernel
def w_X8_roomsReached  (M : Mem) (x1 : Int32) (Q : Int32 → Mem → Prop) : Prop :=
  w_X7_take 41 M x1 (fun M1 => vp_in x1 6 ∧ (w_X7_measureFrom  M1 (M1 (41 + 4) (Int32.toNatClampNeg x1)) (fun M4 => w_X7_roomsMeasured  M4  (fun r7 M6 => Q r7 M6))))
abbrev rm_X8_roomsReached : Room := { frames := 15, cells := 0, slots := 0, locals := 300 }
set_option maxHeartbeats 4000000 in
set_option maxRecDepth 100000 in
theorem c_X8_roomsReached (X : Cx)  (M : Mem) (x1 : Int32) (Q : Int32 → Mem → Prop) (h : w_X8_roomsReached  M x1 Q) : Ct yX8_roomsReached cX8_roomsReached 2 (some .int) rm_X8_roomsReached X M [.ref (ad X 0), .int x1] (Qi X Q) := by
  refine ct_of (own := RX8) (lv := [(0, .ref (ad X 0)), (1, .int x1)]) rfl (by decide) (Nat.le_of_ble_eq_true rfl) rfl ?_
  intro K C
  unfold w_X8_roomsReached at h
  refine r_aload_n (pc := 0) C 0 dX8_roomsReached_0 rfl ?_
  refine r_get (pc := 1) (k := 0) (j := 8) (Cn := RX8) (T := TX8) (N := 12) C (by decide) (ce0 _) rfl iaX8 (by decide) aw39 rfl rfl dX8_roomsReached_1 ?_
  refine r_aload_n (pc := 4) C 0 dX8_roomsReached_4 rfl ?_
  refine r_get (pc := 5) (k := 0) (j := 4) (Cn := RX8) (T := TX8) (N := 12) C (by decide) (ce0 _) rfl iaX8 (by decide) aw29 rfl rfl dX8_roomsReached_5 ?_
  refine r_aload_n (pc := 8) C 0 dX8_roomsReached_8 rfl ?_
  refine r_get (pc := 9) (k := 0) (j := 7) (Cn := RX8) (T := TX8) (N := 12) C (by decide) (ce0 _) rfl iaX8 (by decide) aw35 rfl rfl dX8_roomsReached_9 ?_
  refine r_iload_n (pc := 12) C 1 dX8_roomsReached_12 rfl ?_
  have hM := c_X7_take X 41 (show kd 41 = 6 from rfl) M x1 _ h
  refine q_s0 (s1 := List.reverse [.ref (ad X 41), .ref (ad X 29), .int x1] ++ .ref (ad X 32) :: []) rfl ?_
  refine r_callVNv (pc := 13) (k := 32) (As := [.ref (ad X 41), .ref (ad X 29), .int x1]) (st := []) C 3 (by decide) (ce32 _) rfl aw636 aw637 hM nm42 aw638 aw38 yd_X7_take ⟨rfl, rfl⟩ ⟨Nat.le_of_ble_eq_true rfl, Nat.le_of_ble_eq_true rfl⟩ rfl (Nat.le_of_ble_eq_true rfl) dX8_roomsReached_13 (fun M1 h => ?_)
  refine r_aload_n (pc := 16) C 0 dX8_roomsReached_16 rfl ?_
  refine r_get (pc := 17) (k := 0) (j := 8) (Cn := RX8) (T := TX8) (N := 12) C (by decide) (ce0 _) rfl iaX8 (by decide) aw39 rfl rfl dX8_roomsReached_17 ?_
  refine r_aload_n (pc := 20) C 0 dX8_roomsReached_20 rfl ?_
  refine r_get (pc := 21) (k := 0) (j := 4) (Cn := RX8) (T := TX8) (N := 12) C (by decide) (ce0 _) rfl iaX8 (by decide) aw29 rfl rfl dX8_roomsReached_21 ?_
  refine r_getN (pc := 24) (k := 41) (j := 9) (Cn := RX6) (T := TX6) (N := 16) C (bdT (show kd 41 = 6 from rfl)) (ceT (show kd 41 = 6 from rfl) _) rfl iaX6 (by decide) nf26 rfl rfl dX8_roomsReached_24 ?_
  refine r_iload_n (pc := 27) C 1 dX8_roomsReached_27 rfl ?_
  obtain ⟨g3, h⟩ := h
  refine q_iald (pc := 28) (k := (41 + 4)) (n := 6) (j := (Int32.toNatClampNeg x1)) C (bdT4 (show kd 41 = 6 from rfl)) (ceT4 (show kd 41 = 6 from rfl) _) g3 rfl dX8_roomsReached_28 ?_
  have hM := c_X7_measureFrom X  M1 (M1 (41 + 4) (Int32.toNatClampNeg x1)) _ h
  refine q_s0 (s1 := List.reverse [.int (M1 (41 + 4) (Int32.toNatClampNeg x1))] ++ .ref (ad X 32) :: []) rfl ?_
  refine r_callVNv (pc := 29) (k := 32) (As := [.int (M1 (41 + 4) (Int32.toNatClampNeg x1))]) (st := []) C 1 (by decide) (ce32 _) rfl aw644 aw645 hM nm45 aw646 aw38 yd_X7_measureFrom ⟨rfl, rfl⟩ ⟨Nat.le_of_ble_eq_true rfl, Nat.le_of_ble_eq_true rfl⟩ rfl (Nat.le_of_ble_eq_true rfl) dX8_roomsReached_29 (fun M4 h => ?_)
  refine r_aload_n (pc := 32) C 0 dX8_roomsReached_32 rfl ?_
  refine r_get (pc := 33) (k := 0) (j := 8) (Cn := RX8) (T := TX8) (N := 12) C (by decide) (ce0 _) rfl iaX8 (by decide) aw39 rfl rfl dX8_roomsReached_33 ?_
  have hM := c_X7_roomsMeasured X  M4  _ h
  refine q_s0 (s1 := List.reverse [] ++ .ref (ad X 32) :: []) rfl ?_
  refine r_callVNi (pc := 36) (k := 32) (As := []) (st := []) C 0 (by decide) (ce32 _) rfl aw683 aw684 hM nm47 aw685 aw38 yd_X7_roomsMeasured ⟨rfl, rfl⟩ ⟨Nat.le_of_ble_eq_true rfl, Nat.le_of_ble_eq_true rfl⟩ rfl (Nat.le_of_ble_eq_true rfl) dX8_roomsReached_36 (fun r7 M6 h => ?_)
  exact r_iret (pc := 39) C dX8_roomsReached_39 h
theorem yd_X8_reach : yX8_reach.cls ≠ "java/lang/invoke/MethodHandle" ∧ yX8_reach.cls ≠ "java/lang/invoke/VarHandle" ∧ (parseMethodDescriptor yX8_reach.desc).map (fun d => d.parameters.length) = some 1 := by decide +kernel
def w_X8_reach  (M : Mem) (x1 : Int32) (Q : Int32 → Mem → Prop) : Prop :=
  w_X8_isPerson  M x1 (fun r2 M1 => ((r2 = 0) → (Q (-1000001) M1)) ∧ ((¬ r2 = 0) → (w_X8_roomsReached  M1 x1 (fun r5 M4 => Q r5 M4))))
abbrev rm_X8_reach : Room := { frames := 18, cells := 0, slots := 0, locals := 360 }
set_option maxHeartbeats 4000000 in
set_option maxRecDepth 100000 in
theorem c_X8_reach (X : Cx)  (M : Mem) (x1 : Int32) (Q : Int32 → Mem → Prop) (h : w_X8_reach  M x1 Q) : Ct yX8_reach cX8_reach 2 (some .int) rm_X8_reach X M [.ref (ad X 0), .int x1] (Qi X Q) := by
  refine ct_of (own := RX8) (lv := [(0, .ref (ad X 0)), (1, .int x1)]) rfl (by decide) (Nat.le_of_ble_eq_true rfl) rfl ?_
  intro K C
  unfold w_X8_reach at h
  refine r_aload_n (pc := 0) C 0 dX8_reach_0 rfl ?_
  refine r_iload_n (pc := 1) C 1 dX8_reach_1 rfl ?_
  have hM := c_X8_isPerson X  M x1 _ h
  refine q_s0 (s1 := List.reverse [.int x1] ++ .ref (ad X 0) :: []) rfl ?_
  refine r_callVi (pc := 2) (k := 0) (As := [.int x1]) (st := []) C 1 (by decide) (ce0 _) rfl aw414 aw415 hM aw413 aw416 aw2 yd_X8_isPerson ⟨rfl, rfl⟩ ⟨Nat.le_of_ble_eq_true rfl, Nat.le_of_ble_eq_true rfl⟩ rfl (Nat.le_of_ble_eq_true rfl) dX8_reach_2 (fun r2 M1 h => ?_)
  refine r_if_eq (pc := 5) (tgt := 16) C dX8_reach_5 (by decide) (fun c3 => ?_) (fun c3 => ?_)
  · have h := h.1 c3
    refine r_ldc (pc := 16) C aw115 dX8_reach_16 ?_
    exact r_iret (pc := 18) C dX8_reach_18 h
  · have h := h.2 c3
    refine r_aload_n (pc := 8) C 0 dX8_reach_8 rfl ?_
    refine r_iload_n (pc := 9) C 1 dX8_reach_9 rfl ?_
    have hM := c_X8_roomsReached X  M1 x1 _ h
    refine q_s0 (s1 := List.reverse [.int x1] ++ .ref (ad X 0) :: []) rfl ?_
    refine r_callVi (pc := 10) (k := 0) (As := [.int x1]) (st := []) C 1 (by decide) (ce0 _) rfl aw680 aw681 hM aw679 aw682 aw2 yd_X8_roomsReached ⟨rfl, rfl⟩ ⟨Nat.le_of_ble_eq_true rfl, Nat.le_of_ble_eq_true rfl⟩ rfl (Nat.le_of_ble_eq_true rfl) dX8_reach_10 (fun r5 M4 h => ?_)
    refine r_goto (pc := 13) (tgt := 18) C dX8_reach_13 (by decide) ?_
    exact r_iret (pc := 18) C dX8_reach_18 h
theorem yd_X8_locked : yX8_locked.cls ≠ "java/lang/invoke/MethodHandle" ∧ yX8_locked.cls ≠ "java/lang/invoke/VarHandle" ∧ (parseMethodDescriptor yX8_locked.desc).map (fun d => d.parameters.length) = some 0 := by decide +kernel
def wB_X8_locked_14  (Q : Int32 → Mem → Prop)  (R14 : Mem → Int32 → Int32 → Prop) (M : Mem) (x1 : Int32) (x2 : Int32) : Prop :=
  (((M 41 3) ≤ x2) → (Q x1 M)) ∧ ((¬ (M 41 3) ≤ x2) → (w_X8_roomsReached  M x2 (fun r3 M2 => vp_in x2 6 ∧ (((¬ r3 = (1 <<< ((M2 (41 + 4) (Int32.toNatClampNeg x2)) &&& 31))) → (∀ v6 : Int32, v6 = x2 + 1 → (R14 M2 x1 v6))) ∧ ((r3 = (1 <<< ((M2 (41 + 4) (Int32.toNatClampNeg x2)) &&& 31))) → (∀ v7 : Int32, v7 = (x1 ||| (1 <<< (x2 &&& 31))) → (∀ v8 : Int32, v8 = x2 + 1 → (R14 M2 v7 v8))))))))
def wL_X8_locked_14  (Q : Int32 → Mem → Prop)  : Nat → Mem → Int32 → Int32 → Prop
  | 0 => fun _ _ _ => False
  | n + 1 => fun M x1 x2 => wB_X8_locked_14  Q  (wL_X8_locked_14  Q  n) M x1 x2
theorem wL_X8_locked_14_s  {Q : Int32 → Mem → Prop}  {n : Nat} {M : Mem} {x1 : Int32} {x2 : Int32} (h : wL_X8_locked_14  Q  (n + 1) M x1 x2) : wB_X8_locked_14  Q  (wL_X8_locked_14  Q  n) M x1 x2 := h
def w_X8_locked  (M : Mem)  (Q : Int32 → Mem → Prop) : Prop :=
  w_X8_isTown  M  (fun r2 M1 => ((¬ r2 = 0) → (∃ n4 : Nat, wL_X8_locked_14  Q  n4 M1 0 0)) ∧ ((r2 = 0) → (Q (-1000002) M1)))
abbrev rm_X8_locked : Room := { frames := 18, cells := 0, slots := 0, locals := 360 }
set_option maxHeartbeats 4000000 in
set_option maxRecDepth 100000 in
theorem c_X8_locked (X : Cx)  (M : Mem)  (Q : Int32 → Mem → Prop) (h : w_X8_locked  M  Q) : Ct yX8_locked cX8_locked 3 (some .int) rm_X8_locked X M [.ref (ad X 0)] (Qi X Q) := by
  refine ct_of (own := RX8) (lv := [(0, .ref (ad X 0))]) rfl (by decide) (Nat.le_of_ble_eq_true rfl) rfl ?_
  intro K C
  have hL14 : ∀  (n : Nat) (M : Mem) (x1 : Int32) (x2 : Int32), wL_X8_locked_14  Q  n M x1 x2 → WX K X 3 (Qi X Q) M 14 [(0, .ref (ad X 0)), (1, .int x1), (2, .int x2)] [] := by
    intro  n
    induction n with
    | zero => intro M x1 x2 h; exact absurd h id
    | succ n ih =>
      intro M x1 x2 h
      replace h := wL_X8_locked_14_s h
      unfold wB_X8_locked_14 at h
      refine r_iload_n (pc := 14) C 2 dX8_locked_14 rfl ?_
      refine r_aload_n (pc := 15) C 0 dX8_locked_15 rfl ?_
      refine r_get (pc := 16) (k := 0) (j := 4) (Cn := RX8) (T := TX8) (N := 12) C (by decide) (ce0 _) rfl iaX8 (by decide) aw29 rfl rfl dX8_locked_16 ?_
      refine r_getN (pc := 19) (k := 41) (j := 3) (Cn := RX6) (T := TX6) (N := 16) C (bdT (show kd 41 = 6 from rfl)) (ceT (show kd 41 = 6 from rfl) _) rfl iaX6 (by decide) nf15 rfl rfl dX8_locked_19 ?_
      refine r_icmp_ge (pc := 22) (tgt := 56) C dX8_locked_22 (by decide) (fun c1 => ?_) (fun c1 => ?_)
      · have h := h.1 c1
        refine r_iload_n (pc := 56) C 1 dX8_locked_56 rfl ?_
        exact r_iret (pc := 57) C dX8_locked_57 h
      · have h := h.2 c1
        refine r_aload_n (pc := 25) C 0 dX8_locked_25 rfl ?_
        refine r_iload_n (pc := 26) C 2 dX8_locked_26 rfl ?_
        have hM := c_X8_roomsReached X  M x2 _ h
        refine q_s0 (s1 := List.reverse [.int x2] ++ .ref (ad X 0) :: []) rfl ?_
        refine r_callVi (pc := 27) (k := 0) (As := [.int x2]) (st := []) C 1 (by decide) (ce0 _) rfl aw680 aw681 hM aw679 aw682 aw2 yd_X8_roomsReached ⟨rfl, rfl⟩ ⟨Nat.le_of_ble_eq_true rfl, Nat.le_of_ble_eq_true rfl⟩ rfl (Nat.le_of_ble_eq_true rfl) dX8_locked_27 (fun r3 M2 h => ?_)
        refine r_iconst (pc := 30) (v := 1) C dX8_locked_30 (by decide) ?_
        refine r_aload_n (pc := 31) C 0 dX8_locked_31 rfl ?_
        refine r_get (pc := 32) (k := 0) (j := 4) (Cn := RX8) (T := TX8) (N := 12) C (by decide) (ce0 _) rfl iaX8 (by decide) aw29 rfl rfl dX8_locked_32 ?_
        refine r_getN (pc := 35) (k := 41) (j := 9) (Cn := RX6) (T := TX6) (N := 16) C (bdT (show kd 41 = 6 from rfl)) (ceT (show kd 41 = 6 from rfl) _) rfl iaX6 (by decide) nf26 rfl rfl dX8_locked_35 ?_
        refine r_iload_n (pc := 38) C 2 dX8_locked_38 rfl ?_
        obtain ⟨g4, h⟩ := h
        refine q_iald (pc := 39) (k := (41 + 4)) (n := 6) (j := (Int32.toNatClampNeg x2)) C (bdT4 (show kd 41 = 6 from rfl)) (ceT4 (show kd 41 = 6 from rfl) _) g4 rfl dX8_locked_39 ?_
        refine r_ishl (pc := 40) C dX8_locked_40 ?_
        refine r_icmp_ne (pc := 41) (tgt := 50) C dX8_locked_41 (by decide) (fun c5 => ?_) (fun c5 => ?_)
        · have h := h.1 c5
          obtain ⟨v6, ev6⟩ : ∃ z : Int32, z = x2 + 1 := ⟨_, rfl⟩
          replace h := h v6 ev6
          refine r_iinc (pc := 50) (v := v6) (lv2 := [(2, .int v6), (0, .ref (ad X 0)), (1, .int x1)]) C 2 dX8_locked_50 rfl (by rw [ev6]; rfl) (by decide) rfl ?_
          refine r_goto (pc := 53) (tgt := 14) C dX8_locked_53 (by decide) ?_
          refine r_sub (lv2 := [(0, .ref (ad X 0)), (1, .int x1), (2, .int v6)]) [1, 2, 0] rfl ?_
          exact ih _ _ _ h
        · have h := h.2 c5
          refine r_iload_n (pc := 44) C 1 dX8_locked_44 rfl ?_
          refine r_iconst (pc := 45) (v := 1) C dX8_locked_45 (by decide) ?_
          refine r_iload_n (pc := 46) C 2 dX8_locked_46 rfl ?_
          refine r_ishl (pc := 47) C dX8_locked_47 ?_
          refine r_ior (pc := 48) C dX8_locked_48 ?_
          refine r_topi (fun v7 ev7 => ?_)
          replace h := h v7 ev7
          refine r_istore_n (pc := 49) (lv2 := [(1, .int v7), (0, .ref (ad X 0)), (2, .int x2)]) C dX8_locked_49 (by decide) rfl ?_
          obtain ⟨v8, ev8⟩ : ∃ z : Int32, z = x2 + 1 := ⟨_, rfl⟩
          replace h := h v8 ev8
          refine r_iinc (pc := 50) (v := v8) (lv2 := [(2, .int v8), (1, .int v7), (0, .ref (ad X 0))]) C 2 dX8_locked_50 rfl (by rw [ev8]; rfl) (by decide) rfl ?_
          refine r_goto (pc := 53) (tgt := 14) C dX8_locked_53 (by decide) ?_
          refine r_sub (lv2 := [(0, .ref (ad X 0)), (1, .int v7), (2, .int v8)]) [2, 1, 0] rfl ?_
          exact ih _ _ _ h
  unfold w_X8_locked at h
  refine r_aload_n (pc := 0) C 0 dX8_locked_0 rfl ?_
  have hM := c_X8_isTown X  M  _ h
  refine q_s0 (s1 := List.reverse [] ++ .ref (ad X 0) :: []) rfl ?_
  refine r_callVi (pc := 1) (k := 0) (As := []) (st := []) C 0 (by decide) (ce0 _) rfl aw545 aw546 hM aw544 aw547 aw2 yd_X8_isTown ⟨rfl, rfl⟩ ⟨Nat.le_of_ble_eq_true rfl, Nat.le_of_ble_eq_true rfl⟩ rfl (Nat.le_of_ble_eq_true rfl) dX8_locked_1 (fun r2 M1 h => ?_)
  refine r_if_ne (pc := 4) (tgt := 10) C dX8_locked_4 (by decide) (fun c3 => ?_) (fun c3 => ?_)
  · have h := h.1 c3
    refine r_iconst (pc := 10) (v := 0) C dX8_locked_10 (by decide) ?_
    refine r_istore_n (pc := 11) (lv2 := [(1, .int 0), (0, .ref (ad X 0))]) C dX8_locked_11 (by decide) rfl ?_
    refine r_iconst (pc := 12) (v := 0) C dX8_locked_12 (by decide) ?_
    refine r_istore_n (pc := 13) (lv2 := [(2, .int 0), (1, .int 0), (0, .ref (ad X 0))]) C dX8_locked_13 (by decide) rfl ?_
    obtain ⟨n4, h⟩ := h
    refine r_sub (lv2 := [(0, .ref (ad X 0)), (1, .int 0), (2, .int 0)]) [2, 1, 0] rfl ?_
    exact hL14  _ _ _ _ h
  · have h := h.2 c3
    refine r_ldc (pc := 7) C aw392 dX8_locked_7 ?_
    exact r_iret (pc := 9) C dX8_locked_9 h
theorem yd_X8_gifts : yX8_gifts.cls ≠ "java/lang/invoke/MethodHandle" ∧ yX8_gifts.cls ≠ "java/lang/invoke/VarHandle" ∧ (parseMethodDescriptor yX8_gifts.desc).map (fun d => d.parameters.length) = some 3 := by decide +kernel
def w_X8_gifts  (M : Mem) (x1 : Int32) (x2 : Int32) (x3 : Int32) (Q : Int32 → Mem → Prop) : Prop :=
  w_X8_isPerson  M x1 (fun r2 M1 => ((r2 = 0) → (Q (-1000001) M1)) ∧ ((¬ r2 = 0) → (w_X8_isDoor  M1 x2 (fun r5 M4 => ((r5 = 0) → (Q (-1000001) M4)) ∧ ((¬ r5 = 0) → (w_X8_within  M4 x3 2 (fun r8 M7 => ((¬ r8 = 0) → (w_X2_hold 41 M7 x1 x2 (fun M10 => w_X5_gather 41 M10 x1 (fun M12 => w_X5_seek  M12  (fun M14 => ((¬ x3 = 0) → (Q (M14 37 5) M14)) ∧ ((x3 = 0) → (Q (M14 37 4) M14))))))) ∧ ((r8 = 0) → (Q (-1000001) M7)))))))))
abbrev rm_X8_gifts : Room := { frames := 12, cells := 0, slots := 0, locals := 240 }
set_option maxHeartbeats 4000000 in
set_option maxRecDepth 100000 in
theorem c_X8_gifts (X : Cx)  (M : Mem) (x1 : Int32) (x2 : Int32) (x3 : Int32) (Q : Int32 → Mem → Prop) (h : w_X8_gifts  M x1 x2 x3 Q) : Ct yX8_gifts cX8_gifts 4 (some .int) rm_X8_gifts X M [.ref (ad X 0), .int x1, .int x2, .int x3] (Qi X Q) := by
  refine ct_of (own := RX8) (lv := [(0, .ref (ad X 0)), (1, .int x1), (2, .int x2), (3, .int x3)]) rfl (by decide) (Nat.le_of_ble_eq_true rfl) rfl ?_
  intro K C
  unfold w_X8_gifts at h
  refine r_aload_n (pc := 0) C 0 dX8_gifts_0 rfl ?_
  refine r_iload_n (pc := 1) C 1 dX8_gifts_1 rfl ?_
  have hM := c_X8_isPerson X  M x1 _ h
  refine q_s0 (s1 := List.reverse [.int x1] ++ .ref (ad X 0) :: []) rfl ?_
  refine r_callVi (pc := 2) (k := 0) (As := [.int x1]) (st := []) C 1 (by decide) (ce0 _) rfl aw414 aw415 hM aw413 aw416 aw2 yd_X8_isPerson ⟨rfl, rfl⟩ ⟨Nat.le_of_ble_eq_true rfl, Nat.le_of_ble_eq_true rfl⟩ rfl (Nat.le_of_ble_eq_true rfl) dX8_gifts_2 (fun r2 M1 h => ?_)
  refine r_if_eq (pc := 5) (tgt := 24) C dX8_gifts_5 (by decide) (fun c3 => ?_) (fun c3 => ?_)
  · have h := h.1 c3
    refine r_ldc (pc := 24) C aw115 dX8_gifts_24 ?_
    exact r_iret (pc := 26) C dX8_gifts_26 h
  · have h := h.2 c3
    refine r_aload_n (pc := 8) C 0 dX8_gifts_8 rfl ?_
    refine r_iload_n (pc := 9) C 2 dX8_gifts_9 rfl ?_
    have hM := c_X8_isDoor X  M1 x2 _ h
    refine q_s0 (s1 := List.reverse [.int x2] ++ .ref (ad X 0) :: []) rfl ?_
    refine r_callVi (pc := 10) (k := 0) (As := [.int x2]) (st := []) C 1 (by decide) (ce0 _) rfl aw418 aw419 hM aw417 aw420 aw2 yd_X8_isDoor ⟨rfl, rfl⟩ ⟨Nat.le_of_ble_eq_true rfl, Nat.le_of_ble_eq_true rfl⟩ rfl (Nat.le_of_ble_eq_true rfl) dX8_gifts_10 (fun r5 M4 h => ?_)
    refine r_if_eq (pc := 13) (tgt := 24) C dX8_gifts_13 (by decide) (fun c6 => ?_) (fun c6 => ?_)
    · have h := h.1 c6
      refine r_ldc (pc := 24) C aw115 dX8_gifts_24 ?_
      exact r_iret (pc := 26) C dX8_gifts_26 h
    · have h := h.2 c6
      refine r_iload_n (pc := 16) C 3 dX8_gifts_16 rfl ?_
      refine r_iconst (pc := 17) (v := 2) C dX8_gifts_17 (by decide) ?_
      have hM := c_X8_within X  M4 x3 2 _ h
      refine q_s0 (s1 := List.reverse [.int x3, .int 2] ++ []) rfl ?_
      refine r_callSi (pc := 18) (As := [.int x3, .int 2]) (st := []) C 2 hM aw116 aw117 aw118 aw2 yd_X8_within ⟨rfl, rfl⟩ ⟨Nat.le_of_ble_eq_true rfl, Nat.le_of_ble_eq_true rfl⟩ rfl (Nat.le_of_ble_eq_true rfl) dX8_gifts_18 (fun r8 M7 h => ?_)
      refine r_if_ne (pc := 21) (tgt := 27) C dX8_gifts_21 (by decide) (fun c9 => ?_) (fun c9 => ?_)
      · have h := h.1 c9
        refine r_aload_n (pc := 27) C 0 dX8_gifts_27 rfl ?_
        refine r_get (pc := 28) (k := 0) (j := 7) (Cn := RX8) (T := TX8) (N := 12) C (by decide) (ce0 _) rfl iaX8 (by decide) aw35 rfl rfl dX8_gifts_28 ?_
        refine r_aload_n (pc := 31) C 0 dX8_gifts_31 rfl ?_
        refine r_get (pc := 32) (k := 0) (j := 4) (Cn := RX8) (T := TX8) (N := 12) C (by decide) (ce0 _) rfl iaX8 (by decide) aw29 rfl rfl dX8_gifts_32 ?_
        refine r_iload_n (pc := 35) C 1 dX8_gifts_35 rfl ?_
        refine r_iload_n (pc := 36) C 2 dX8_gifts_36 rfl ?_
        have hM := c_X2_hold X 41 (show kd 41 = 6 from rfl) M7 x1 x2 _ h
        refine q_s0 (s1 := List.reverse [.ref (ad X 41), .int x1, .int x2] ++ .ref (ad X 29) :: []) rfl ?_
        refine r_callVNv (pc := 37) (k := 29) (As := [.ref (ad X 41), .int x1, .int x2]) (st := []) C 3 (by decide) (ce29 _) rfl aw428 aw429 hM nm27 aw430 aw34 yd_X2_hold ⟨rfl, rfl⟩ ⟨Nat.le_of_ble_eq_true rfl, Nat.le_of_ble_eq_true rfl⟩ rfl (Nat.le_of_ble_eq_true rfl) dX8_gifts_37 (fun M10 h => ?_)
        refine r_aload_n (pc := 40) C 0 dX8_gifts_40 rfl ?_
        refine r_get (pc := 41) (k := 0) (j := 9) (Cn := RX8) (T := TX8) (N := 12) C (by decide) (ce0 _) rfl iaX8 (by decide) aw43 rfl rfl dX8_gifts_41 ?_
        refine r_aload_n (pc := 44) C 0 dX8_gifts_44 rfl ?_
        refine r_get (pc := 45) (k := 0) (j := 4) (Cn := RX8) (T := TX8) (N := 12) C (by decide) (ce0 _) rfl iaX8 (by decide) aw29 rfl rfl dX8_gifts_45 ?_
        refine r_aload_n (pc := 48) C 0 dX8_gifts_48 rfl ?_
        refine r_get (pc := 49) (k := 0) (j := 7) (Cn := RX8) (T := TX8) (N := 12) C (by decide) (ce0 _) rfl iaX8 (by decide) aw35 rfl rfl dX8_gifts_49 ?_
        refine r_iload_n (pc := 52) C 1 dX8_gifts_52 rfl ?_
        have hM := c_X5_gather X 41 (show kd 41 = 6 from rfl) M10 x1 _ h
        refine q_s0 (s1 := List.reverse [.ref (ad X 41), .ref (ad X 29), .int x1] ++ .ref (ad X 37) :: []) rfl ?_
        refine r_callVNv (pc := 53) (k := 37) (As := [.ref (ad X 41), .ref (ad X 29), .int x1]) (st := []) C 3 (by decide) (ce37 _) rfl aw709 aw710 hM nm48 aw711 aw42 yd_X5_gather ⟨rfl, rfl⟩ ⟨Nat.le_of_ble_eq_true rfl, Nat.le_of_ble_eq_true rfl⟩ rfl (Nat.le_of_ble_eq_true rfl) dX8_gifts_53 (fun M12 h => ?_)
        refine r_aload_n (pc := 56) C 0 dX8_gifts_56 rfl ?_
        refine r_get (pc := 57) (k := 0) (j := 9) (Cn := RX8) (T := TX8) (N := 12) C (by decide) (ce0 _) rfl iaX8 (by decide) aw43 rfl rfl dX8_gifts_57 ?_
        refine r_aload_n (pc := 60) C 0 dX8_gifts_60 rfl ?_
        refine r_get (pc := 61) (k := 0) (j := 7) (Cn := RX8) (T := TX8) (N := 12) C (by decide) (ce0 _) rfl iaX8 (by decide) aw35 rfl rfl dX8_gifts_61 ?_
        have hM := c_X5_seek X  M12  _ h
        refine q_s0 (s1 := List.reverse [.ref (ad X 29)] ++ .ref (ad X 37) :: []) rfl ?_
        refine r_callVNv (pc := 64) (k := 37) (As := [.ref (ad X 29)]) (st := []) C 1 (by decide) (ce37 _) rfl aw717 aw718 hM nm50 aw719 aw42 yd_X5_seek ⟨rfl, rfl⟩ ⟨Nat.le_of_ble_eq_true rfl, Nat.le_of_ble_eq_true rfl⟩ rfl (Nat.le_of_ble_eq_true rfl) dX8_gifts_64 (fun M14 h => ?_)
        refine r_iload_n (pc := 67) C 3 dX8_gifts_67 rfl ?_
        refine r_if_ne (pc := 68) (tgt := 81) C dX8_gifts_68 (by decide) (fun c16 => ?_) (fun c16 => ?_)
        · have h := h.1 c16
          refine r_aload_n (pc := 81) C 0 dX8_gifts_81 rfl ?_
          refine r_get (pc := 82) (k := 0) (j := 9) (Cn := RX8) (T := TX8) (N := 12) C (by decide) (ce0 _) rfl iaX8 (by decide) aw43 rfl rfl dX8_gifts_82 ?_
          refine r_getN (pc := 85) (k := 37) (j := 5) (Cn := RX5) (T := TX5) (N := 6) C (by decide) (ce37 _) rfl iaX5 (by decide) nf43 rfl rfl dX8_gifts_85 ?_
          exact r_iret (pc := 88) C dX8_gifts_88 h
        · have h := h.2 c16
          refine r_aload_n (pc := 71) C 0 dX8_gifts_71 rfl ?_
          refine r_get (pc := 72) (k := 0) (j := 9) (Cn := RX8) (T := TX8) (N := 12) C (by decide) (ce0 _) rfl iaX8 (by decide) aw43 rfl rfl dX8_gifts_72 ?_
          refine r_getN (pc := 75) (k := 37) (j := 4) (Cn := RX5) (T := TX5) (N := 6) C (by decide) (ce37 _) rfl iaX5 (by decide) nf42 rfl rfl dX8_gifts_75 ?_
          refine r_goto (pc := 78) (tgt := 88) C dX8_gifts_78 (by decide) ?_
          exact r_iret (pc := 88) C dX8_gifts_88 h
      · have h := h.2 c9
        refine r_ldc (pc := 24) C aw115 dX8_gifts_24 ?_
        exact r_iret (pc := 26) C dX8_gifts_26 h
theorem yd_X8_parade : yX8_parade.cls ≠ "java/lang/invoke/MethodHandle" ∧ yX8_parade.cls ≠ "java/lang/invoke/VarHandle" ∧ (parseMethodDescriptor yX8_parade.desc).map (fun d => d.parameters.length) = some 3 := by decide +kernel
def wJ_X8_parade_152  (Q : Int32 → Mem → Prop) (R95 : Mem → Int32 → Int32 → Int32 → Int32 → Int32 → Int32 → Prop) (M : Mem) (x1 : Int32) (x2 : Int32) (x3 : Int32) (x4 : Int32) (x5 : Int32) (x6 : Int32) (x8 : Int32) : Prop :=
  w_X2_opensBehind 52 M x6 x2 (fun r2 M1 => ((r2 = 0) → (∀ v4 : Int32, v4 = x6 + 1 → (R95 M1 x1 x2 x3 x4 x5 v4))) ∧ ((¬ r2 = 0) → (∀ v5 : Int32, v5 = x6 + 1 → (R95 M1 x1 x2 x3 x8 x6 v5))))
def wJ_X8_parade_123  (Q : Int32 → Mem → Prop) (R95 : Mem → Int32 → Int32 → Int32 → Int32 → Int32 → Int32 → Prop) (M : Mem) (x1 : Int32) (x2 : Int32) (x3 : Int32) (x4 : Int32) (x5 : Int32) (x6 : Int32) (s0 : Int32) : Prop :=
  w_J6_bitCount_0f7a4  M x6 (fun r2 M1 => ((¬ s0 = 0) → (∀ v4 : Int32, v4 = x6 + 1 → (R95 M1 x1 x2 x3 x4 x5 v4))) ∧ ((s0 = 0) → (((x4 = (-1000000)) → (wJ_X8_parade_152  Q R95 M1 x1 x2 x3 x4 x5 x6 r2)) ∧ ((¬ x4 = (-1000000)) → (((x4 ≤ r2) → (∀ v7 : Int32, v7 = x6 + 1 → (R95 M1 x1 x2 x3 x4 x5 v7))) ∧ ((¬ x4 ≤ r2) → (wJ_X8_parade_152  Q R95 M1 x1 x2 x3 x4 x5 x6 r2)))))))
def wB_X8_parade_95  (Q : Int32 → Mem → Prop)  (R95 : Mem → Int32 → Int32 → Int32 → Int32 → Int32 → Int32 → Prop) (M : Mem) (x1 : Int32) (x2 : Int32) (x3 : Int32) (x4 : Int32) (x5 : Int32) (x6 : Int32) : Prop :=
  (((1 <<< ((M 41 3) &&& 31)) ≤ x6) → (((¬ x3 = 0) → (Q x5 M)) ∧ ((x3 = 0) → (Q x4 M)))) ∧ ((¬ (1 <<< ((M 41 3) &&& 31)) ≤ x6) → (((((x6 >>> (x1 &&& 31)) &&& 1) = 0) → (wJ_X8_parade_123  Q R95 M x1 x2 x3 x4 x5 x6 0)) ∧ ((¬ ((x6 >>> (x1 &&& 31)) &&& 1) = 0) → (wJ_X8_parade_123  Q R95 M x1 x2 x3 x4 x5 x6 1))))
def wL_X8_parade_95  (Q : Int32 → Mem → Prop)  : Nat → Mem → Int32 → Int32 → Int32 → Int32 → Int32 → Int32 → Prop
  | 0 => fun _ _ _ _ _ _ _ => False
  | n + 1 => fun M x1 x2 x3 x4 x5 x6 => wB_X8_parade_95  Q  (wL_X8_parade_95  Q  n) M x1 x2 x3 x4 x5 x6
theorem wL_X8_parade_95_s  {Q : Int32 → Mem → Prop}  {n : Nat} {M : Mem} {x1 : Int32} {x2 : Int32} {x3 : Int32} {x4 : Int32} {x5 : Int32} {x6 : Int32} (h : wL_X8_parade_95  Q  (n + 1) M x1 x2 x3 x4 x5 x6) : wB_X8_parade_95  Q  (wL_X8_parade_95  Q  n) M x1 x2 x3 x4 x5 x6 := h
def wB_X8_parade_54  (Q : Int32 → Mem → Prop)  (R54 : Mem → Int32 → Int32 → Int32 → Int32 → Prop) (M : Mem) (x1 : Int32) (x2 : Int32) (x3 : Int32) (x4 : Int32) : Prop :=
  (((M 41 3) ≤ x4) → (∃ n2 : Nat, wL_X8_parade_95  Q  n2 M x1 x2 x3 (-1000000) (-1000000) 0)) ∧ ((¬ (M 41 3) ≤ x4) → (w_X6_mark 52 M x4 x2 (fun M3 => ∀ v5 : Int32, v5 = x4 + 1 → (R54 M3 x1 x2 x3 v5))))
def wL_X8_parade_54  (Q : Int32 → Mem → Prop)  : Nat → Mem → Int32 → Int32 → Int32 → Int32 → Prop
  | 0 => fun _ _ _ _ _ => False
  | n + 1 => fun M x1 x2 x3 x4 => wB_X8_parade_54  Q  (wL_X8_parade_54  Q  n) M x1 x2 x3 x4
theorem wL_X8_parade_54_s  {Q : Int32 → Mem → Prop}  {n : Nat} {M : Mem} {x1 : Int32} {x2 : Int32} {x3 : Int32} {x4 : Int32} (h : wL_X8_parade_54  Q  (n + 1) M x1 x2 x3 x4) : wB_X8_parade_54  Q  (wL_X8_parade_54  Q  n) M x1 x2 x3 x4 := h
def w_X8_parade  (M : Mem) (x1 : Int32) (x2 : Int32) (x3 : Int32) (Q : Int32 → Mem → Prop) : Prop :=
  w_X8_isPerson  M x1 (fun r2 M1 => ((r2 = 0) → (Q (-1000001) M1)) ∧ ((¬ r2 = 0) → (w_X8_isDoor  M1 x2 (fun r5 M4 => ((r5 = 0) → (Q (-1000001) M4)) ∧ ((¬ r5 = 0) → (w_X8_within  M4 x3 2 (fun r8 M7 => ((¬ r8 = 0) → (w_X2_hold 41 M7 x1 x2 (fun M10 => w_X6_become 52 41 M10  (fun M12 => ∃ n14 : Nat, wL_X8_parade_54  Q  n14 M12 x1 x2 x3 0)))) ∧ ((r8 = 0) → (Q (-1000001) M7)))))))))
abbrev rm_X8_parade : Room := { frames := 12, cells := 0, slots := 0, locals := 240 }
set_option maxHeartbeats 4000000 in
set_option maxRecDepth 100000 in
theorem c_X8_parade (X : Cx)  (M : Mem) (x1 : Int32) (x2 : Int32) (x3 : Int32) (Q : Int32 → Mem → Prop) (h : w_X8_parade  M x1 x2 x3 Q) : Ct yX8_parade cX8_parade 9 (some .int) rm_X8_parade X M [.ref (ad X 0), .int x1, .int x2, .int x3] (Qi X Q) := by
  refine ct_of (own := RX8) (lv := [(0, .ref (ad X 0)), (1, .int x1), (2, .int x2), (3, .int x3)]) rfl (by decide) (Nat.le_of_ble_eq_true rfl) rfl ?_
  intro K C
  have hJ152 : ∀ (R95 : Mem → Int32 → Int32 → Int32 → Int32 → Int32 → Int32 → Prop) (hR95 : ∀ (M : Mem) (x1 : Int32) (x2 : Int32) (x3 : Int32) (x4 : Int32) (x5 : Int32) (x6 : Int32), R95 M x1 x2 x3 x4 x5 x6 → WX K X 9 (Qi X Q) M 95 [(0, .ref (ad X 0)), (1, .int x1), (2, .int x2), (3, .int x3), (4, .int x4), (5, .int x5), (6, .int x6)] []) (M : Mem) (x1 : Int32) (x2 : Int32) (x3 : Int32) (x4 : Int32) (x5 : Int32) (x6 : Int32) (x8 : Int32), wJ_X8_parade_152  Q R95 M x1 x2 x3 x4 x5 x6 x8 → WX K X 9 (Qi X Q) M 152 [(0, .ref (ad X 0)), (1, .int x1), (2, .int x2), (3, .int x3), (4, .int x4), (5, .int x5), (6, .int x6), (8, .int x8)] [] := by
    intro R95 hR95 M x1 x2 x3 x4 x5 x6 x8 h
    unfold wJ_X8_parade_152 at h
    refine r_aload_n (pc := 152) C 0 dX8_parade_152 rfl ?_
    refine r_get (pc := 153) (k := 0) (j := 7) (Cn := RX8) (T := TX8) (N := 12) C (by decide) (ce0 _) rfl iaX8 (by decide) aw35 rfl rfl dX8_parade_153 ?_
    refine r_iload (pc := 156) C 6 dX8_parade_156 rfl ?_
    refine r_aload_n (pc := 158) C 0 dX8_parade_158 rfl ?_
    refine r_get (pc := 159) (k := 0) (j := 5) (Cn := RX8) (T := TX8) (N := 12) C (by decide) (ce0 _) rfl iaX8 (by decide) aw30 rfl rfl dX8_parade_159 ?_
    refine r_iload_n (pc := 162) C 2 dX8_parade_162 rfl ?_
    have hM := c_X2_opensBehind X 52 (show kd 52 = 6 from rfl) M x6 x2 _ h
    refine q_s0 (s1 := List.reverse [.int x6, .ref (ad X 52), .int x2] ++ .ref (ad X 29) :: []) rfl ?_
    refine r_callVNi (pc := 163) (k := 29) (As := [.int x6, .ref (ad X 52), .int x2]) (st := []) C 3 (by decide) (ce29 _) rfl aw760 aw761 hM nm54 aw762 aw34 yd_X2_opensBehind ⟨rfl, rfl⟩ ⟨Nat.le_of_ble_eq_true rfl, Nat.le_of_ble_eq_true rfl⟩ rfl (Nat.le_of_ble_eq_true rfl) dX8_parade_163 (fun r2 M1 h => ?_)
    refine r_if_eq (pc := 166) (tgt := 177) C dX8_parade_166 (by decide) (fun c3 => ?_) (fun c3 => ?_)
    · have h := h.1 c3
      obtain ⟨v4, ev4⟩ : ∃ z : Int32, z = x6 + 1 := ⟨_, rfl⟩
      replace h := h v4 ev4
      refine r_iinc (pc := 177) (v := v4) (lv2 := [(6, .int v4), (0, .ref (ad X 0)), (1, .int x1), (2, .int x2), (3, .int x3), (4, .int x4), (5, .int x5), (8, .int x8)]) C 6 dX8_parade_177 rfl (by rw [ev4]; rfl) (by decide) rfl ?_
      refine r_goto (pc := 180) (tgt := 95) C dX8_parade_180 (by decide) ?_
      refine r_sub (lv2 := [(0, .ref (ad X 0)), (1, .int x1), (2, .int x2), (3, .int x3), (4, .int x4), (5, .int x5), (6, .int v4)]) [1, 2, 3, 4, 5, 6, 0] rfl ?_
      exact hR95 _ _ _ _ _ _ _ h
    · have h := h.2 c3
      refine r_iload (pc := 169) C 7 dX8_parade_169 rfl ?_
      refine r_istore (pc := 171) (lv2 := [(4, .int x8), (0, .ref (ad X 0)), (1, .int x1), (2, .int x2), (3, .int x3), (5, .int x5), (6, .int x6), (8, .int x8)]) C dX8_parade_171 (by decide) rfl ?_
      refine r_iload (pc := 173) C 6 dX8_parade_173 rfl ?_
      refine r_istore (pc := 175) (lv2 := [(5, .int x6), (4, .int x8), (0, .ref (ad X 0)), (1, .int x1), (2, .int x2), (3, .int x3), (6, .int x6), (8, .int x8)]) C dX8_parade_175 (by decide) rfl ?_
      obtain ⟨v5, ev5⟩ : ∃ z : Int32, z = x6 + 1 := ⟨_, rfl⟩
      replace h := h v5 ev5
      refine r_iinc (pc := 177) (v := v5) (lv2 := [(6, .int v5), (5, .int x6), (4, .int x8), (0, .ref (ad X 0)), (1, .int x1), (2, .int x2), (3, .int x3), (8, .int x8)]) C 6 dX8_parade_177 rfl (by rw [ev5]; rfl) (by decide) rfl ?_
      refine r_goto (pc := 180) (tgt := 95) C dX8_parade_180 (by decide) ?_
      refine r_sub (lv2 := [(0, .ref (ad X 0)), (1, .int x1), (2, .int x2), (3, .int x3), (4, .int x8), (5, .int x6), (6, .int v5)]) [3, 4, 5, 6, 2, 1, 0] rfl ?_
      exact hR95 _ _ _ _ _ _ _ h
  have hJ123 : ∀ (R95 : Mem → Int32 → Int32 → Int32 → Int32 → Int32 → Int32 → Prop) (hR95 : ∀ (M : Mem) (x1 : Int32) (x2 : Int32) (x3 : Int32) (x4 : Int32) (x5 : Int32) (x6 : Int32), R95 M x1 x2 x3 x4 x5 x6 → WX K X 9 (Qi X Q) M 95 [(0, .ref (ad X 0)), (1, .int x1), (2, .int x2), (3, .int x3), (4, .int x4), (5, .int x5), (6, .int x6)] []) (M : Mem) (x1 : Int32) (x2 : Int32) (x3 : Int32) (x4 : Int32) (x5 : Int32) (x6 : Int32) (s0 : Int32), wJ_X8_parade_123  Q R95 M x1 x2 x3 x4 x5 x6 s0 → WX K X 9 (Qi X Q) M 123 [(0, .ref (ad X 0)), (1, .int x1), (2, .int x2), (3, .int x3), (4, .int x4), (5, .int x5), (6, .int x6)] [.int s0] := by
    intro R95 hR95 M x1 x2 x3 x4 x5 x6 s0 h
    unfold wJ_X8_parade_123 at h
    refine r_istore (pc := 123) (lv2 := [(7, .int s0), (0, .ref (ad X 0)), (1, .int x1), (2, .int x2), (3, .int x3), (4, .int x4), (5, .int x5), (6, .int x6)]) C dX8_parade_123 (by decide) rfl ?_
    refine r_iload (pc := 125) C 7 dX8_parade_125 rfl ?_
    have hM := c_J6_bitCount_0f7a4 X  M x6 _ h
    refine q_s0 (s1 := List.reverse [.int x6] ++ []) rfl ?_
    refine r_callSi (pc := 127) (As := [.int x6]) (st := []) C 1 hM aw754 aw755 aw756 aw452 yd_J6_bitCount_0f7a4 ⟨rfl, rfl⟩ ⟨Nat.le_of_ble_eq_true rfl, Nat.le_of_ble_eq_true rfl⟩ rfl (Nat.le_of_ble_eq_true rfl) dX8_parade_127 (fun r2 M1 h => ?_)
    refine r_istore (pc := 130) (lv2 := [(8, .int r2), (7, .int s0), (0, .ref (ad X 0)), (1, .int x1), (2, .int x2), (3, .int x3), (4, .int x4), (5, .int x5), (6, .int x6)]) C dX8_parade_130 (by decide) rfl ?_
    refine r_iload (pc := 132) C 1 dX8_parade_132 rfl ?_
    refine r_if_ne (pc := 134) (tgt := 177) C dX8_parade_134 (by decide) (fun c3 => ?_) (fun c3 => ?_)
    · have h := h.1 c3
      obtain ⟨v4, ev4⟩ : ∃ z : Int32, z = x6 + 1 := ⟨_, rfl⟩
      replace h := h v4 ev4
      refine r_iinc (pc := 177) (v := v4) (lv2 := [(6, .int v4), (8, .int r2), (7, .int s0), (0, .ref (ad X 0)), (1, .int x1), (2, .int x2), (3, .int x3), (4, .int x4), (5, .int x5)]) C 8 dX8_parade_177 rfl (by rw [ev4]; rfl) (by decide) rfl ?_
      refine r_goto (pc := 180) (tgt := 95) C dX8_parade_180 (by decide) ?_
      refine r_sub (lv2 := [(0, .ref (ad X 0)), (1, .int x1), (2, .int x2), (3, .int x3), (4, .int x4), (5, .int x5), (6, .int v4)]) [3, 4, 5, 6, 7, 8, 0] rfl ?_
      exact hR95 _ _ _ _ _ _ _ h
    · have h := h.2 c3
      refine r_iload (pc := 137) C 6 dX8_parade_137 rfl ?_
      refine r_ldcw (pc := 139) C aw753 dX8_parade_139 ?_
      refine r_icmp_eq (pc := 142) (tgt := 152) C dX8_parade_142 (by decide) (fun c5 => ?_) (fun c5 => ?_)
      · have h := h.1 c5
        refine r_sub (lv2 := [(0, .ref (ad X 0)), (1, .int x1), (2, .int x2), (3, .int x3), (4, .int x4), (5, .int x5), (6, .int x6), (8, .int r2)]) [2, 3, 4, 5, 6, 7, 8, 0] rfl ?_
        exact hJ152 _ hR95 _ _ _ _ _ _ _ _ h
      · have h := h.2 c5
        refine r_iload (pc := 145) C 0 dX8_parade_145 rfl ?_
        refine r_iload (pc := 147) C 6 dX8_parade_147 rfl ?_
        refine r_icmp_ge (pc := 149) (tgt := 177) C dX8_parade_149 (by decide) (fun c6 => ?_) (fun c6 => ?_)
        · have h := h.1 c6
          obtain ⟨v7, ev7⟩ : ∃ z : Int32, z = x6 + 1 := ⟨_, rfl⟩
          replace h := h v7 ev7
          refine r_iinc (pc := 177) (v := v7) (lv2 := [(6, .int v7), (8, .int r2), (7, .int s0), (0, .ref (ad X 0)), (1, .int x1), (2, .int x2), (3, .int x3), (4, .int x4), (5, .int x5)]) C 8 dX8_parade_177 rfl (by rw [ev7]; rfl) (by decide) rfl ?_
          refine r_goto (pc := 180) (tgt := 95) C dX8_parade_180 (by decide) ?_
          refine r_sub (lv2 := [(0, .ref (ad X 0)), (1, .int x1), (2, .int x2), (3, .int x3), (4, .int x4), (5, .int x5), (6, .int v7)]) [3, 4, 5, 6, 7, 8, 0] rfl ?_
          exact hR95 _ _ _ _ _ _ _ h
        · have h := h.2 c6
          refine r_sub (lv2 := [(0, .ref (ad X 0)), (1, .int x1), (2, .int x2), (3, .int x3), (4, .int x4), (5, .int x5), (6, .int x6), (8, .int r2)]) [2, 3, 4, 5, 6, 7, 8, 0] rfl ?_
          exact hJ152 _ hR95 _ _ _ _ _ _ _ _ h
  have hL95 : ∀  (n : Nat) (M : Mem) (x1 : Int32) (x2 : Int32) (x3 : Int32) (x4 : Int32) (x5 : Int32) (x6 : Int32), wL_X8_parade_95  Q  n M x1 x2 x3 x4 x5 x6 → WX K X 9 (Qi X Q) M 95 [(0, .ref (ad X 0)), (1, .int x1), (2, .int x2), (3, .int x3), (4, .int x4), (5, .int x5), (6, .int x6)] [] := by
    intro  n
    induction n with
    | zero => intro M x1 x2 x3 x4 x5 x6 h; exact absurd h id
    | succ n ih =>
      intro M x1 x2 x3 x4 x5 x6 h
      replace h := wL_X8_parade_95_s h
      unfold wB_X8_parade_95 at h
      refine r_iload (pc := 95) C 6 dX8_parade_95 rfl ?_
      refine r_iconst (pc := 97) (v := 1) C dX8_parade_97 (by decide) ?_
      refine r_aload_n (pc := 98) C 0 dX8_parade_98 rfl ?_
      refine r_get (pc := 99) (k := 0) (j := 4) (Cn := RX8) (T := TX8) (N := 12) C (by decide) (ce0 _) rfl iaX8 (by decide) aw29 rfl rfl dX8_parade_99 ?_
      refine r_getN (pc := 102) (k := 41) (j := 3) (Cn := RX6) (T := TX6) (N := 16) C (bdT (show kd 41 = 6 from rfl)) (ceT (show kd 41 = 6 from rfl) _) rfl iaX6 (by decide) nf15 rfl rfl dX8_parade_102 ?_
      refine r_ishl (pc := 105) C dX8_parade_105 ?_
      refine r_icmp_ge (pc := 106) (tgt := 183) C dX8_parade_106 (by decide) (fun c1 => ?_) (fun c1 => ?_)
      · have h := h.1 c1
        refine r_iload_n (pc := 183) C 3 dX8_parade_183 rfl ?_
        refine r_if_ne (pc := 184) (tgt := 192) C dX8_parade_184 (by decide) (fun c2 => ?_) (fun c2 => ?_)
        · have h := h.1 c2
          refine r_iload (pc := 192) C 5 dX8_parade_192 rfl ?_
          exact r_iret (pc := 194) C dX8_parade_194 h
        · have h := h.2 c2
          refine r_iload (pc := 187) C 4 dX8_parade_187 rfl ?_
          refine r_goto (pc := 189) (tgt := 194) C dX8_parade_189 (by decide) ?_
          exact r_iret (pc := 194) C dX8_parade_194 h
      · have h := h.2 c1
        refine r_iload (pc := 109) C 6 dX8_parade_109 rfl ?_
        refine r_iload_n (pc := 111) C 1 dX8_parade_111 rfl ?_
        refine r_ishr (pc := 112) C dX8_parade_112 ?_
        refine r_iconst (pc := 113) (v := 1) C dX8_parade_113 (by decide) ?_
        refine r_iand (pc := 114) C dX8_parade_114 ?_
        refine r_if_eq (pc := 115) (tgt := 122) C dX8_parade_115 (by decide) (fun c3 => ?_) (fun c3 => ?_)
        · have h := h.1 c3
          refine r_iconst (pc := 122) (v := 0) C dX8_parade_122 (by decide) ?_
          refine r_sub (lv2 := [(0, .ref (ad X 0)), (1, .int x1), (2, .int x2), (3, .int x3), (4, .int x4), (5, .int x5), (6, .int x6)]) [0, 1, 2, 3, 4, 5, 6] rfl ?_
          exact hJ123 _ ih _ _ _ _ _ _ _ _ h
        · have h := h.2 c3
          refine r_iconst (pc := 118) (v := 1) C dX8_parade_118 (by decide) ?_
          refine r_goto (pc := 119) (tgt := 123) C dX8_parade_119 (by decide) ?_
          refine r_sub (lv2 := [(0, .ref (ad X 0)), (1, .int x1), (2, .int x2), (3, .int x3), (4, .int x4), (5, .int x5), (6, .int x6)]) [0, 1, 2, 3, 4, 5, 6] rfl ?_
          exact hJ123 _ ih _ _ _ _ _ _ _ _ h
  have hL54 : ∀  (n : Nat) (M : Mem) (x1 : Int32) (x2 : Int32) (x3 : Int32) (x4 : Int32), wL_X8_parade_54  Q  n M x1 x2 x3 x4 → WX K X 9 (Qi X Q) M 54 [(0, .ref (ad X 0)), (1, .int x1), (2, .int x2), (3, .int x3), (4, .int x4)] [] := by
    intro  n
    induction n with
    | zero => intro M x1 x2 x3 x4 h; exact absurd h id
    | succ n ih =>
      intro M x1 x2 x3 x4 h
      replace h := wL_X8_parade_54_s h
      unfold wB_X8_parade_54 at h
      refine r_iload (pc := 54) C 4 dX8_parade_54 rfl ?_
      refine r_aload_n (pc := 56) C 0 dX8_parade_56 rfl ?_
      refine r_get (pc := 57) (k := 0) (j := 4) (Cn := RX8) (T := TX8) (N := 12) C (by decide) (ce0 _) rfl iaX8 (by decide) aw29 rfl rfl dX8_parade_57 ?_
      refine r_getN (pc := 60) (k := 41) (j := 3) (Cn := RX6) (T := TX6) (N := 16) C (bdT (show kd 41 = 6 from rfl)) (ceT (show kd 41 = 6 from rfl) _) rfl iaX6 (by decide) nf15 rfl rfl dX8_parade_60 ?_
      refine r_icmp_ge (pc := 63) (tgt := 82) C dX8_parade_63 (by decide) (fun c1 => ?_) (fun c1 => ?_)
      · have h := h.1 c1
        refine r_ldcw (pc := 82) C aw753 dX8_parade_82 ?_
        refine r_istore (pc := 85) (lv2 := [(4, .int (-1000000)), (0, .ref (ad X 0)), (1, .int x1), (2, .int x2), (3, .int x3)]) C dX8_parade_85 (by decide) rfl ?_
        refine r_ldcw (pc := 87) C aw753 dX8_parade_87 ?_
        refine r_istore (pc := 90) (lv2 := [(5, .int (-1000000)), (4, .int (-1000000)), (0, .ref (ad X 0)), (1, .int x1), (2, .int x2), (3, .int x3)]) C dX8_parade_90 (by decide) rfl ?_
        refine r_iconst (pc := 92) (v := 0) C dX8_parade_92 (by decide) ?_
        refine r_istore (pc := 93) (lv2 := [(6, .int 0), (5, .int (-1000000)), (4, .int (-1000000)), (0, .ref (ad X 0)), (1, .int x1), (2, .int x2), (3, .int x3)]) C dX8_parade_93 (by decide) rfl ?_
        obtain ⟨n2, h⟩ := h
        refine r_sub (lv2 := [(0, .ref (ad X 0)), (1, .int x1), (2, .int x2), (3, .int x3), (4, .int (-1000000)), (5, .int (-1000000)), (6, .int 0)]) [3, 4, 5, 6, 2, 1, 0] rfl ?_
        exact hL95  _ _ _ _ _ _ _ _ h
      · have h := h.2 c1
        refine r_aload_n (pc := 66) C 0 dX8_parade_66 rfl ?_
        refine r_get (pc := 67) (k := 0) (j := 5) (Cn := RX8) (T := TX8) (N := 12) C (by decide) (ce0 _) rfl iaX8 (by decide) aw30 rfl rfl dX8_parade_67 ?_
        refine r_iload (pc := 70) C 4 dX8_parade_70 rfl ?_
        refine r_iload_n (pc := 72) C 2 dX8_parade_72 rfl ?_
        have hM := c_X6_mark X 52 (show kd 52 = 6 from rfl) M x4 x2 _ h
        refine q_s0 (s1 := List.reverse [.int x4, .int x2] ++ .ref (ad X 52) :: []) rfl ?_
        refine r_callVNv (pc := 73) (k := 52) (As := [.int x4, .int x2]) (st := []) C 2 (bdT (show kd 52 = 6 from rfl)) (ceT (show kd 52 = 6 from rfl) _) rfl aw474 aw475 hM nm53 aw476 aw28 yd_X6_mark ⟨rfl, rfl⟩ ⟨Nat.le_of_ble_eq_true rfl, Nat.le_of_ble_eq_true rfl⟩ rfl (Nat.le_of_ble_eq_true rfl) dX8_parade_73 (fun M3 h => ?_)
        obtain ⟨v5, ev5⟩ : ∃ z : Int32, z = x4 + 1 := ⟨_, rfl⟩
        replace h := h v5 ev5
        refine r_iinc (pc := 76) (v := v5) (lv2 := [(4, .int v5), (0, .ref (ad X 0)), (1, .int x1), (2, .int x2), (3, .int x3)]) C 4 dX8_parade_76 rfl (by rw [ev5]; rfl) (by decide) rfl ?_
        refine r_goto (pc := 79) (tgt := 54) C dX8_parade_79 (by decide) ?_
        refine r_sub (lv2 := [(0, .ref (ad X 0)), (1, .int x1), (2, .int x2), (3, .int x3), (4, .int v5)]) [1, 2, 3, 4, 0] rfl ?_
        exact ih _ _ _ _ _ h
  unfold w_X8_parade at h
  refine r_aload_n (pc := 0) C 0 dX8_parade_0 rfl ?_
  refine r_iload_n (pc := 1) C 1 dX8_parade_1 rfl ?_
  have hM := c_X8_isPerson X  M x1 _ h
  refine q_s0 (s1 := List.reverse [.int x1] ++ .ref (ad X 0) :: []) rfl ?_
  refine r_callVi (pc := 2) (k := 0) (As := [.int x1]) (st := []) C 1 (by decide) (ce0 _) rfl aw414 aw415 hM aw413 aw416 aw2 yd_X8_isPerson ⟨rfl, rfl⟩ ⟨Nat.le_of_ble_eq_true rfl, Nat.le_of_ble_eq_true rfl⟩ rfl (Nat.le_of_ble_eq_true rfl) dX8_parade_2 (fun r2 M1 h => ?_)
  refine r_if_eq (pc := 5) (tgt := 24) C dX8_parade_5 (by decide) (fun c3 => ?_) (fun c3 => ?_)
  · have h := h.1 c3
    refine r_ldc (pc := 24) C aw115 dX8_parade_24 ?_
    exact r_iret (pc := 26) C dX8_parade_26 h
  · have h := h.2 c3
    refine r_aload_n (pc := 8) C 0 dX8_parade_8 rfl ?_
    refine r_iload_n (pc := 9) C 2 dX8_parade_9 rfl ?_
    have hM := c_X8_isDoor X  M1 x2 _ h
    refine q_s0 (s1 := List.reverse [.int x2] ++ .ref (ad X 0) :: []) rfl ?_
    refine r_callVi (pc := 10) (k := 0) (As := [.int x2]) (st := []) C 1 (by decide) (ce0 _) rfl aw418 aw419 hM aw417 aw420 aw2 yd_X8_isDoor ⟨rfl, rfl⟩ ⟨Nat.le_of_ble_eq_true rfl, Nat.le_of_ble_eq_true rfl⟩ rfl (Nat.le_of_ble_eq_true rfl) dX8_parade_10 (fun r5 M4 h => ?_)
    refine r_if_eq (pc := 13) (tgt := 24) C dX8_parade_13 (by decide) (fun c6 => ?_) (fun c6 => ?_)
    · have h := h.1 c6
      refine r_ldc (pc := 24) C aw115 dX8_parade_24 ?_
      exact r_iret (pc := 26) C dX8_parade_26 h
    · have h := h.2 c6
      refine r_iload_n (pc := 16) C 3 dX8_parade_16 rfl ?_
      refine r_iconst (pc := 17) (v := 2) C dX8_parade_17 (by decide) ?_
      have hM := c_X8_within X  M4 x3 2 _ h
      refine q_s0 (s1 := List.reverse [.int x3, .int 2] ++ []) rfl ?_
      refine r_callSi (pc := 18) (As := [.int x3, .int 2]) (st := []) C 2 hM aw116 aw117 aw118 aw2 yd_X8_within ⟨rfl, rfl⟩ ⟨Nat.le_of_ble_eq_true rfl, Nat.le_of_ble_eq_true rfl⟩ rfl (Nat.le_of_ble_eq_true rfl) dX8_parade_18 (fun r8 M7 h => ?_)
      refine r_if_ne (pc := 21) (tgt := 27) C dX8_parade_21 (by decide) (fun c9 => ?_) (fun c9 => ?_)
      · have h := h.1 c9
        refine r_aload_n (pc := 27) C 0 dX8_parade_27 rfl ?_
        refine r_get (pc := 28) (k := 0) (j := 7) (Cn := RX8) (T := TX8) (N := 12) C (by decide) (ce0 _) rfl iaX8 (by decide) aw35 rfl rfl dX8_parade_28 ?_
        refine r_aload_n (pc := 31) C 0 dX8_parade_31 rfl ?_
        refine r_get (pc := 32) (k := 0) (j := 4) (Cn := RX8) (T := TX8) (N := 12) C (by decide) (ce0 _) rfl iaX8 (by decide) aw29 rfl rfl dX8_parade_32 ?_
        refine r_iload_n (pc := 35) C 1 dX8_parade_35 rfl ?_
        refine r_iload_n (pc := 36) C 2 dX8_parade_36 rfl ?_
        have hM := c_X2_hold X 41 (show kd 41 = 6 from rfl) M7 x1 x2 _ h
        refine q_s0 (s1 := List.reverse [.ref (ad X 41), .int x1, .int x2] ++ .ref (ad X 29) :: []) rfl ?_
        refine r_callVNv (pc := 37) (k := 29) (As := [.ref (ad X 41), .int x1, .int x2]) (st := []) C 3 (by decide) (ce29 _) rfl aw428 aw429 hM nm27 aw430 aw34 yd_X2_hold ⟨rfl, rfl⟩ ⟨Nat.le_of_ble_eq_true rfl, Nat.le_of_ble_eq_true rfl⟩ rfl (Nat.le_of_ble_eq_true rfl) dX8_parade_37 (fun M10 h => ?_)
        refine r_aload_n (pc := 40) C 0 dX8_parade_40 rfl ?_
        refine r_get (pc := 41) (k := 0) (j := 5) (Cn := RX8) (T := TX8) (N := 12) C (by decide) (ce0 _) rfl iaX8 (by decide) aw30 rfl rfl dX8_parade_41 ?_
        refine r_aload_n (pc := 44) C 0 dX8_parade_44 rfl ?_
        refine r_get (pc := 45) (k := 0) (j := 4) (Cn := RX8) (T := TX8) (N := 12) C (by decide) (ce0 _) rfl iaX8 (by decide) aw29 rfl rfl dX8_parade_45 ?_
        have hM := c_X6_become X 52 (show kd 52 = 6 from rfl) 41 (show kd 41 = 6 from rfl) M10  _ h
        refine q_s0 (s1 := List.reverse [.ref (ad X 41)] ++ .ref (ad X 52) :: []) rfl ?_
        refine r_callVNv (pc := 48) (k := 52) (As := [.ref (ad X 41)]) (st := []) C 1 (bdT (show kd 52 = 6 from rfl)) (ceT (show kd 52 = 6 from rfl) _) rfl aw309 aw310 hM nm21 aw311 aw28 yd_X6_become ⟨rfl, rfl⟩ ⟨Nat.le_of_ble_eq_true rfl, Nat.le_of_ble_eq_true rfl⟩ rfl (Nat.le_of_ble_eq_true rfl) dX8_parade_48 (fun M12 h => ?_)
        refine r_iconst (pc := 51) (v := 0) C dX8_parade_51 (by decide) ?_
        refine r_istore (pc := 52) (lv2 := [(4, .int 0), (0, .ref (ad X 0)), (1, .int x1), (2, .int x2), (3, .int x3)]) C dX8_parade_52 (by decide) rfl ?_
        obtain ⟨n14, h⟩ := h
        refine r_sub (lv2 := [(0, .ref (ad X 0)), (1, .int x1), (2, .int x2), (3, .int x3), (4, .int 0)]) [1, 2, 3, 4, 0] rfl ?_
        exact hL54  _ _ _ _ _ _ h
      · have h := h.2 c9
        refine r_ldc (pc := 24) C aw115 dX8_parade_24 ?_
        exact r_iret (pc := 26) C dX8_parade_26 h
theorem yd_X8_newDoor : yX8_newDoor.cls ≠ "java/lang/invoke/MethodHandle" ∧ yX8_newDoor.cls ≠ "java/lang/invoke/VarHandle" ∧ (parseMethodDescriptor yX8_newDoor.desc).map (fun d => d.parameters.length) = some 3 := by decide +kernel
def wJ_X8_newDoor_132  (Q : Int32 → Mem → Prop) (R56 : Mem → Int32 → Int32 → Int32 → Int32 → Int32 → Int32 → Prop) (R74 : Mem → Int32 → Int32 → Int32 → Int32 → Int32 → Int32 → Int32 → Prop) (M : Mem) (x1 : Int32) (x2 : Int32) (x3 : Int32) (x6 : Int32) (x7 : Int32) (x8 : Int32) : Prop :=
  ∀ v1 : Int32, v1 = ((10 * x6) + x7) → (∀ v2 : Int32, v2 = x7 + 1 → (R74 M x1 x2 x3 v1 x8 x6 v2))
def wB_X8_newDoor_74  (Q : Int32 → Mem → Prop) (R56 : Mem → Int32 → Int32 → Int32 → Int32 → Int32 → Int32 → Prop) (R74 : Mem → Int32 → Int32 → Int32 → Int32 → Int32 → Int32 → Int32 → Prop) (M : Mem) (x1 : Int32) (x2 : Int32) (x3 : Int32) (x4 : Int32) (x5 : Int32) (x6 : Int32) (x7 : Int32) : Prop :=
  (((M 41 0) ≤ x7) → (∀ v2 : Int32, v2 = x6 + 1 → (R56 M x1 x2 x3 x4 x5 v2))) ∧ ((¬ (M 41 0) ≤ x7) → (vp_in x1 6 ∧ (w_X7_farWith  M x6 x7 x2 (M (41 + 4) (Int32.toNatClampNeg x1)) (fun r5 M4 => ((r5 = (-1000000)) → (∀ v7 : Int32, v7 = x7 + 1 → (R74 M4 x1 x2 x3 x4 x5 x6 v7))) ∧ ((¬ r5 = (-1000000)) → (((x5 = (-1000000)) → (wJ_X8_newDoor_132  Q R56 R74 M4 x1 x2 x3 x6 x7 r5)) ∧ ((¬ x5 = (-1000000)) → (((x5 ≤ r5) → (∀ v10 : Int32, v10 = x7 + 1 → (R74 M4 x1 x2 x3 x4 x5 x6 v10))) ∧ ((¬ x5 ≤ r5) → (wJ_X8_newDoor_132  Q R56 R74 M4 x1 x2 x3 x6 x7 r5))))))))))
def wL_X8_newDoor_74  (Q : Int32 → Mem → Prop) (R56 : Mem → Int32 → Int32 → Int32 → Int32 → Int32 → Int32 → Prop) : Nat → Mem → Int32 → Int32 → Int32 → Int32 → Int32 → Int32 → Int32 → Prop
  | 0 => fun _ _ _ _ _ _ _ _ => False
  | n + 1 => fun M x1 x2 x3 x4 x5 x6 x7 => wB_X8_newDoor_74  Q R56 (wL_X8_newDoor_74  Q R56 n) M x1 x2 x3 x4 x5 x6 x7
theorem wL_X8_newDoor_74_s  {Q : Int32 → Mem → Prop} {R56 : Mem → Int32 → Int32 → Int32 → Int32 → Int32 → Int32 → Prop} {n : Nat} {M : Mem} {x1 : Int32} {x2 : Int32} {x3 : Int32} {x4 : Int32} {x5 : Int32} {x6 : Int32} {x7 : Int32} (h : wL_X8_newDoor_74  Q R56 (n + 1) M x1 x2 x3 x4 x5 x6 x7) : wB_X8_newDoor_74  Q R56 (wL_X8_newDoor_74  Q R56 n) M x1 x2 x3 x4 x5 x6 x7 := h
def wB_X8_newDoor_56  (Q : Int32 → Mem → Prop)  (R56 : Mem → Int32 → Int32 → Int32 → Int32 → Int32 → Int32 → Prop) (M : Mem) (x1 : Int32) (x2 : Int32) (x3 : Int32) (x4 : Int32) (x5 : Int32) (x6 : Int32) : Prop :=
  (((M 41 0) ≤ x6) → (((¬ x3 = 0) → (Q x5 M)) ∧ ((x3 = 0) → (Q x4 M)))) ∧ ((¬ (M 41 0) ≤ x6) → (∀ v3 : Int32, v3 = (x6 + 1) → (∃ n4 : Nat, wL_X8_newDoor_74  Q R56 n4 M x1 x2 x3 x4 x5 x6 v3)))
def wL_X8_newDoor_56  (Q : Int32 → Mem → Prop)  : Nat → Mem → Int32 → Int32 → Int32 → Int32 → Int32 → Int32 → Prop
  | 0 => fun _ _ _ _ _ _ _ => False
  | n + 1 => fun M x1 x2 x3 x4 x5 x6 => wB_X8_newDoor_56  Q  (wL_X8_newDoor_56  Q  n) M x1 x2 x3 x4 x5 x6
theorem wL_X8_newDoor_56_s  {Q : Int32 → Mem → Prop}  {n : Nat} {M : Mem} {x1 : Int32} {x2 : Int32} {x3 : Int32} {x4 : Int32} {x5 : Int32} {x6 : Int32} (h : wL_X8_newDoor_56  Q  (n + 1) M x1 x2 x3 x4 x5 x6) : wB_X8_newDoor_56  Q  (wL_X8_newDoor_56  Q  n) M x1 x2 x3 x4 x5 x6 := h
def w_X8_newDoor  (M : Mem) (x1 : Int32) (x2 : Int32) (x3 : Int32) (Q : Int32 → Mem → Prop) : Prop :=
  w_X8_isPerson  M x1 (fun r2 M1 => ((r2 = 0) → (Q (-1000001) M1)) ∧ ((¬ r2 = 0) → (w_X8_isRoom  M1 x2 (fun r5 M4 => ((r5 = 0) → (Q (-1000001) M4)) ∧ ((¬ r5 = 0) → (w_X8_within  M4 x3 2 (fun r8 M7 => ((¬ r8 = 0) → (w_X7_take 41 M7 x1 (fun M10 => ∃ n12 : Nat, wL_X8_newDoor_56  Q  n12 M10 x1 x2 x3 (-1000000) (-1000000) 0))) ∧ ((r8 = 0) → (Q (-1000001) M7)))))))))
abbrev rm_X8_newDoor : Room := { frames := 15, cells := 0, slots := 0, locals := 300 }
set_option maxHeartbeats 4000000 in
set_option maxRecDepth 100000 in
theorem c_X8_newDoor (X : Cx)  (M : Mem) (x1 : Int32) (x2 : Int32) (x3 : Int32) (Q : Int32 → Mem → Prop) (h : w_X8_newDoor  M x1 x2 x3 Q) : Ct yX8_newDoor cX8_newDoor 9 (some .int) rm_X8_newDoor X M [.ref (ad X 0), .int x1, .int x2, .int x3] (Qi X Q) := by
  refine ct_of (own := RX8) (lv := [(0, .ref (ad X 0)), (1, .int x1), (2, .int x2), (3, .int x3)]) rfl (by decide) (Nat.le_of_ble_eq_true rfl) rfl ?_
  intro K C
  have hJ132 : ∀ (R56 : Mem → Int32 → Int32 → Int32 → Int32 → Int32 → Int32 → Prop) (hR56 : ∀ (M : Mem) (x1 : Int32) (x2 : Int32) (x3 : Int32) (x4 : Int32) (x5 : Int32) (x6 : Int32), R56 M x1 x2 x3 x4 x5 x6 → WX K X 9 (Qi X Q) M 56 [(0, .ref (ad X 0)), (1, .int x1), (2, .int x2), (3, .int x3), (4, .int x4), (5, .int x5), (6, .int x6)] []) (R74 : Mem → Int32 → Int32 → Int32 → Int32 → Int32 → Int32 → Int32 → Prop) (hR74 : ∀ (M : Mem) (x1 : Int32) (x2 : Int32) (x3 : Int32) (x4 : Int32) (x5 : Int32) (x6 : Int32) (x7 : Int32), R74 M x1 x2 x3 x4 x5 x6 x7 → WX K X 9 (Qi X Q) M 74 [(0, .ref (ad X 0)), (1, .int x1), (2, .int x2), (3, .int x3), (4, .int x4), (5, .int x5), (6, .int x6), (7, .int x7)] []) (M : Mem) (x1 : Int32) (x2 : Int32) (x3 : Int32) (x6 : Int32) (x7 : Int32) (x8 : Int32), wJ_X8_newDoor_132  Q R56 R74 M x1 x2 x3 x6 x7 x8 → WX K X 9 (Qi X Q) M 132 [(0, .ref (ad X 0)), (1, .int x1), (2, .int x2), (3, .int x3), (6, .int x6), (7, .int x7), (8, .int x8)] [] := by
    intro R56 hR56 R74 hR74 M x1 x2 x3 x6 x7 x8 h
    unfold wJ_X8_newDoor_132 at h
    refine r_iload (pc := 132) C 6 dX8_newDoor_132 rfl ?_
    refine r_istore (pc := 134) (lv2 := [(5, .int x8), (0, .ref (ad X 0)), (1, .int x1), (2, .int x2), (3, .int x3), (6, .int x6), (7, .int x7), (8, .int x8)]) C dX8_newDoor_134 (by decide) rfl ?_
    refine r_bipush (pc := 136) (v := 10) C dX8_newDoor_136 (by decide) ?_
    refine r_iload (pc := 138) C 5 dX8_newDoor_138 rfl ?_
    refine r_imul (pc := 140) C dX8_newDoor_140 ?_
    refine r_iload (pc := 141) C 6 dX8_newDoor_141 rfl ?_
    refine r_iadd (pc := 143) C dX8_newDoor_143 ?_
    refine r_topi (fun v1 ev1 => ?_)
    replace h := h v1 ev1
    refine r_istore (pc := 144) (lv2 := [(4, .int v1), (5, .int x8), (0, .ref (ad X 0)), (1, .int x1), (2, .int x2), (3, .int x3), (6, .int x6), (7, .int x7), (8, .int x8)]) C dX8_newDoor_144 (by decide) rfl ?_
    obtain ⟨v2, ev2⟩ : ∃ z : Int32, z = x7 + 1 := ⟨_, rfl⟩
    replace h := h v2 ev2
    refine r_iinc (pc := 146) (v := v2) (lv2 := [(7, .int v2), (4, .int v1), (5, .int x8), (0, .ref (ad X 0)), (1, .int x1), (2, .int x2), (3, .int x3), (6, .int x6), (8, .int x8)]) C 7 dX8_newDoor_146 rfl (by rw [ev2]; rfl) (by decide) rfl ?_
    refine r_goto (pc := 149) (tgt := 74) C dX8_newDoor_149 (by decide) ?_
    refine r_sub (lv2 := [(0, .ref (ad X 0)), (1, .int x1), (2, .int x2), (3, .int x3), (4, .int v1), (5, .int x8), (6, .int x6), (7, .int v2)]) [3, 4, 5, 6, 1, 2, 7, 0] rfl ?_
    exact hR74 _ _ _ _ _ _ _ _ h
  have hL74 : ∀ (R56 : Mem → Int32 → Int32 → Int32 → Int32 → Int32 → Int32 → Prop) (hR56 : ∀ (M : Mem) (x1 : Int32) (x2 : Int32) (x3 : Int32) (x4 : Int32) (x5 : Int32) (x6 : Int32), R56 M x1 x2 x3 x4 x5 x6 → WX K X 9 (Qi X Q) M 56 [(0, .ref (ad X 0)), (1, .int x1), (2, .int x2), (3, .int x3), (4, .int x4), (5, .int x5), (6, .int x6)] []) (n : Nat) (M : Mem) (x1 : Int32) (x2 : Int32) (x3 : Int32) (x4 : Int32) (x5 : Int32) (x6 : Int32) (x7 : Int32), wL_X8_newDoor_74  Q R56 n M x1 x2 x3 x4 x5 x6 x7 → WX K X 9 (Qi X Q) M 74 [(0, .ref (ad X 0)), (1, .int x1), (2, .int x2), (3, .int x3), (4, .int x4), (5, .int x5), (6, .int x6), (7, .int x7)] [] := by
    intro R56 hR56 n
    induction n with
    | zero => intro M x1 x2 x3 x4 x5 x6 x7 h; exact absurd h id
    | succ n ih =>
      intro M x1 x2 x3 x4 x5 x6 x7 h
      replace h := wL_X8_newDoor_74_s h
      unfold wB_X8_newDoor_74 at h
      refine r_iload (pc := 74) C 7 dX8_newDoor_74 rfl ?_
      refine r_aload_n (pc := 76) C 0 dX8_newDoor_76 rfl ?_
      refine r_get (pc := 77) (k := 0) (j := 4) (Cn := RX8) (T := TX8) (N := 12) C (by decide) (ce0 _) rfl iaX8 (by decide) aw29 rfl rfl dX8_newDoor_77 ?_
      refine r_getN (pc := 80) (k := 41) (j := 0) (Cn := RX6) (T := TX6) (N := 16) C (bdT (show kd 41 = 6 from rfl)) (ceT (show kd 41 = 6 from rfl) _) rfl iaX6 (by decide) nf7 rfl rfl dX8_newDoor_80 ?_
      refine r_icmp_ge (pc := 83) (tgt := 152) C dX8_newDoor_83 (by decide) (fun c1 => ?_) (fun c1 => ?_)
      · have h := h.1 c1
        obtain ⟨v2, ev2⟩ : ∃ z : Int32, z = x6 + 1 := ⟨_, rfl⟩
        replace h := h v2 ev2
        refine r_iinc (pc := 152) (v := v2) (lv2 := [(6, .int v2), (0, .ref (ad X 0)), (1, .int x1), (2, .int x2), (3, .int x3), (4, .int x4), (5, .int x5), (7, .int x7)]) C 6 dX8_newDoor_152 rfl (by rw [ev2]; rfl) (by decide) rfl ?_
        refine r_goto (pc := 155) (tgt := 56) C dX8_newDoor_155 (by decide) ?_
        refine r_sub (lv2 := [(0, .ref (ad X 0)), (1, .int x1), (2, .int x2), (3, .int x3), (4, .int x4), (5, .int x5), (6, .int v2)]) [1, 2, 3, 4, 5, 6, 0] rfl ?_
        exact hR56 _ _ _ _ _ _ _ h
      · have h := h.2 c1
        refine r_aload_n (pc := 86) C 0 dX8_newDoor_86 rfl ?_
        refine r_get (pc := 87) (k := 0) (j := 8) (Cn := RX8) (T := TX8) (N := 12) C (by decide) (ce0 _) rfl iaX8 (by decide) aw39 rfl rfl dX8_newDoor_87 ?_
        refine r_iload (pc := 90) C 6 dX8_newDoor_90 rfl ?_
        refine r_iload (pc := 92) C 7 dX8_newDoor_92 rfl ?_
        refine r_iload_n (pc := 94) C 2 dX8_newDoor_94 rfl ?_
        refine r_aload_n (pc := 95) C 0 dX8_newDoor_95 rfl ?_
        refine r_get (pc := 96) (k := 0) (j := 4) (Cn := RX8) (T := TX8) (N := 12) C (by decide) (ce0 _) rfl iaX8 (by decide) aw29 rfl rfl dX8_newDoor_96 ?_
        refine r_getN (pc := 99) (k := 41) (j := 9) (Cn := RX6) (T := TX6) (N := 16) C (bdT (show kd 41 = 6 from rfl)) (ceT (show kd 41 = 6 from rfl) _) rfl iaX6 (by decide) nf26 rfl rfl dX8_newDoor_99 ?_
        refine r_iload_n (pc := 102) C 1 dX8_newDoor_102 rfl ?_
        obtain ⟨g3, h⟩ := h
        refine q_iald (pc := 103) (k := (41 + 4)) (n := 6) (j := (Int32.toNatClampNeg x1)) C (bdT4 (show kd 41 = 6 from rfl)) (ceT4 (show kd 41 = 6 from rfl) _) g3 rfl dX8_newDoor_103 ?_
        have hM := c_X7_farWith X  M x6 x7 x2 (M (41 + 4) (Int32.toNatClampNeg x1)) _ h
        refine q_s0 (s1 := List.reverse [.int x6, .int x7, .int x2, .int (M (41 + 4) (Int32.toNatClampNeg x1))] ++ .ref (ad X 32) :: []) rfl ?_
        refine r_callVNi (pc := 104) (k := 32) (As := [.int x6, .int x7, .int x2, .int (M (41 + 4) (Int32.toNatClampNeg x1))]) (st := []) C 4 (by decide) (ce32 _) rfl aw771 aw772 hM nm55 aw773 aw38 yd_X7_farWith ⟨rfl, rfl⟩ ⟨Nat.le_of_ble_eq_true rfl, Nat.le_of_ble_eq_true rfl⟩ rfl (Nat.le_of_ble_eq_true rfl) dX8_newDoor_104 (fun r5 M4 h => ?_)
        refine r_istore (pc := 107) (lv2 := [(8, .int r5), (0, .ref (ad X 0)), (1, .int x1), (2, .int x2), (3, .int x3), (4, .int x4), (5, .int x5), (6, .int x6), (7, .int x7)]) C dX8_newDoor_107 (by decide) rfl ?_
        refine r_iload (pc := 109) C 0 dX8_newDoor_109 rfl ?_
        refine r_ldcw (pc := 111) C aw753 dX8_newDoor_111 ?_
        refine r_icmp_eq (pc := 114) (tgt := 146) C dX8_newDoor_114 (by decide) (fun c6 => ?_) (fun c6 => ?_)
        · have h := h.1 c6
          obtain ⟨v7, ev7⟩ : ∃ z : Int32, z = x7 + 1 := ⟨_, rfl⟩
          replace h := h v7 ev7
          refine r_iinc (pc := 146) (v := v7) (lv2 := [(7, .int v7), (8, .int r5), (0, .ref (ad X 0)), (1, .int x1), (2, .int x2), (3, .int x3), (4, .int x4), (5, .int x5), (6, .int x6)]) C 8 dX8_newDoor_146 rfl (by rw [ev7]; rfl) (by decide) rfl ?_
          refine r_goto (pc := 149) (tgt := 74) C dX8_newDoor_149 (by decide) ?_
          refine r_sub (lv2 := [(0, .ref (ad X 0)), (1, .int x1), (2, .int x2), (3, .int x3), (4, .int x4), (5, .int x5), (6, .int x6), (7, .int v7)]) [2, 3, 4, 5, 6, 7, 8, 0] rfl ?_
          exact ih _ _ _ _ _ _ _ _ h
        · have h := h.2 c6
          refine r_iload (pc := 117) C 6 dX8_newDoor_117 rfl ?_
          refine r_ldcw (pc := 119) C aw753 dX8_newDoor_119 ?_
          refine r_icmp_eq (pc := 122) (tgt := 132) C dX8_newDoor_122 (by decide) (fun c8 => ?_) (fun c8 => ?_)
          · have h := h.1 c8
            refine r_sub (lv2 := [(0, .ref (ad X 0)), (1, .int x1), (2, .int x2), (3, .int x3), (6, .int x6), (7, .int x7), (8, .int r5)]) [1, 2, 3, 4, 7, 8, 0] rfl ?_
            exact hJ132 _ hR56 _ ih _ _ _ _ _ _ _ h
          · have h := h.2 c8
            refine r_iload (pc := 125) C 0 dX8_newDoor_125 rfl ?_
            refine r_iload (pc := 127) C 6 dX8_newDoor_127 rfl ?_
            refine r_icmp_ge (pc := 129) (tgt := 146) C dX8_newDoor_129 (by decide) (fun c9 => ?_) (fun c9 => ?_)
            · have h := h.1 c9
              obtain ⟨v10, ev10⟩ : ∃ z : Int32, z = x7 + 1 := ⟨_, rfl⟩
              replace h := h v10 ev10
              refine r_iinc (pc := 146) (v := v10) (lv2 := [(7, .int v10), (8, .int r5), (0, .ref (ad X 0)), (1, .int x1), (2, .int x2), (3, .int x3), (4, .int x4), (5, .int x5), (6, .int x6)]) C 8 dX8_newDoor_146 rfl (by rw [ev10]; rfl) (by decide) rfl ?_
              refine r_goto (pc := 149) (tgt := 74) C dX8_newDoor_149 (by decide) ?_
              refine r_sub (lv2 := [(0, .ref (ad X 0)), (1, .int x1), (2, .int x2), (3, .int x3), (4, .int x4), (5, .int x5), (6, .int x6), (7, .int v10)]) [2, 3, 4, 5, 6, 7, 8, 0] rfl ?_
              exact ih _ _ _ _ _ _ _ _ h
            · have h := h.2 c9
              refine r_sub (lv2 := [(0, .ref (ad X 0)), (1, .int x1), (2, .int x2), (3, .int x3), (6, .int x6), (7, .int x7), (8, .int r5)]) [1, 2, 3, 4, 7, 8, 0] rfl ?_
              exact hJ132 _ hR56 _ ih _ _ _ _ _ _ _ h
  have hL56 : ∀  (n : Nat) (M : Mem) (x1 : Int32) (x2 : Int32) (x3 : Int32) (x4 : Int32) (x5 : Int32) (x6 : Int32), wL_X8_newDoor_56  Q  n M x1 x2 x3 x4 x5 x6 → WX K X 9 (Qi X Q) M 56 [(0, .ref (ad X 0)), (1, .int x1), (2, .int x2), (3, .int x3), (4, .int x4), (5, .int x5), (6, .int x6)] [] := by
    intro  n
    induction n with
    | zero => intro M x1 x2 x3 x4 x5 x6 h; exact absurd h id
    | succ n ih =>
      intro M x1 x2 x3 x4 x5 x6 h
      replace h := wL_X8_newDoor_56_s h
      unfold wB_X8_newDoor_56 at h
      refine r_iload (pc := 56) C 6 dX8_newDoor_56 rfl ?_
      refine r_aload_n (pc := 58) C 0 dX8_newDoor_58 rfl ?_
      refine r_get (pc := 59) (k := 0) (j := 4) (Cn := RX8) (T := TX8) (N := 12) C (by decide) (ce0 _) rfl iaX8 (by decide) aw29 rfl rfl dX8_newDoor_59 ?_
      refine r_getN (pc := 62) (k := 41) (j := 0) (Cn := RX6) (T := TX6) (N := 16) C (bdT (show kd 41 = 6 from rfl)) (ceT (show kd 41 = 6 from rfl) _) rfl iaX6 (by decide) nf7 rfl rfl dX8_newDoor_62 ?_
      refine r_icmp_ge (pc := 65) (tgt := 158) C dX8_newDoor_65 (by decide) (fun c1 => ?_) (fun c1 => ?_)
      · have h := h.1 c1
        refine r_iload_n (pc := 158) C 3 dX8_newDoor_158 rfl ?_
        refine r_if_ne (pc := 159) (tgt := 167) C dX8_newDoor_159 (by decide) (fun c2 => ?_) (fun c2 => ?_)
        · have h := h.1 c2
          refine r_iload (pc := 167) C 5 dX8_newDoor_167 rfl ?_
          exact r_iret (pc := 169) C dX8_newDoor_169 h
        · have h := h.2 c2
          refine r_iload (pc := 162) C 4 dX8_newDoor_162 rfl ?_
          refine r_goto (pc := 164) (tgt := 169) C dX8_newDoor_164 (by decide) ?_
          exact r_iret (pc := 169) C dX8_newDoor_169 h
      · have h := h.2 c1
        refine r_iload (pc := 68) C 6 dX8_newDoor_68 rfl ?_
        refine r_iconst (pc := 70) (v := 1) C dX8_newDoor_70 (by decide) ?_
        refine r_iadd (pc := 71) C dX8_newDoor_71 ?_
        refine r_topi (fun v3 ev3 => ?_)
        replace h := h v3 ev3
        refine r_istore (pc := 72) (lv2 := [(7, .int v3), (0, .ref (ad X 0)), (1, .int x1), (2, .int x2), (3, .int x3), (4, .int x4), (5, .int x5), (6, .int x6)]) C dX8_newDoor_72 (by decide) rfl ?_
        obtain ⟨n4, h⟩ := h
        refine r_sub (lv2 := [(0, .ref (ad X 0)), (1, .int x1), (2, .int x2), (3, .int x3), (4, .int x4), (5, .int x5), (6, .int x6), (7, .int v3)]) [1, 2, 3, 4, 5, 6, 7, 0] rfl ?_
        exact hL74 _ ih _ _ _ _ _ _ _ _ _ h
  unfold w_X8_newDoor at h
  refine r_aload_n (pc := 0) C 0 dX8_newDoor_0 rfl ?_
  refine r_iload_n (pc := 1) C 1 dX8_newDoor_1 rfl ?_
  have hM := c_X8_isPerson X  M x1 _ h
  refine q_s0 (s1 := List.reverse [.int x1] ++ .ref (ad X 0) :: []) rfl ?_
  refine r_callVi (pc := 2) (k := 0) (As := [.int x1]) (st := []) C 1 (by decide) (ce0 _) rfl aw414 aw415 hM aw413 aw416 aw2 yd_X8_isPerson ⟨rfl, rfl⟩ ⟨Nat.le_of_ble_eq_true rfl, Nat.le_of_ble_eq_true rfl⟩ rfl (Nat.le_of_ble_eq_true rfl) dX8_newDoor_2 (fun r2 M1 h => ?_)
  refine r_if_eq (pc := 5) (tgt := 24) C dX8_newDoor_5 (by decide) (fun c3 => ?_) (fun c3 => ?_)
  · have h := h.1 c3
    refine r_ldc (pc := 24) C aw115 dX8_newDoor_24 ?_
    exact r_iret (pc := 26) C dX8_newDoor_26 h
  · have h := h.2 c3
    refine r_aload_n (pc := 8) C 0 dX8_newDoor_8 rfl ?_
    refine r_iload_n (pc := 9) C 2 dX8_newDoor_9 rfl ?_
    have hM := c_X8_isRoom X  M1 x2 _ h
    refine q_s0 (s1 := List.reverse [.int x2] ++ .ref (ad X 0) :: []) rfl ?_
    refine r_callVi (pc := 10) (k := 0) (As := [.int x2]) (st := []) C 1 (by decide) (ce0 _) rfl aw568 aw569 hM aw567 aw570 aw2 yd_X8_isRoom ⟨rfl, rfl⟩ ⟨Nat.le_of_ble_eq_true rfl, Nat.le_of_ble_eq_true rfl⟩ rfl (Nat.le_of_ble_eq_true rfl) dX8_newDoor_10 (fun r5 M4 h => ?_)
    refine r_if_eq (pc := 13) (tgt := 24) C dX8_newDoor_13 (by decide) (fun c6 => ?_) (fun c6 => ?_)
    · have h := h.1 c6
      refine r_ldc (pc := 24) C aw115 dX8_newDoor_24 ?_
      exact r_iret (pc := 26) C dX8_newDoor_26 h
    · have h := h.2 c6
      refine r_iload_n (pc := 16) C 3 dX8_newDoor_16 rfl ?_
      refine r_iconst (pc := 17) (v := 2) C dX8_newDoor_17 (by decide) ?_
      have hM := c_X8_within X  M4 x3 2 _ h
      refine q_s0 (s1 := List.reverse [.int x3, .int 2] ++ []) rfl ?_
      refine r_callSi (pc := 18) (As := [.int x3, .int 2]) (st := []) C 2 hM aw116 aw117 aw118 aw2 yd_X8_within ⟨rfl, rfl⟩ ⟨Nat.le_of_ble_eq_true rfl, Nat.le_of_ble_eq_true rfl⟩ rfl (Nat.le_of_ble_eq_true rfl) dX8_newDoor_18 (fun r8 M7 h => ?_)
      refine r_if_ne (pc := 21) (tgt := 27) C dX8_newDoor_21 (by decide) (fun c9 => ?_) (fun c9 => ?_)
      · have h := h.1 c9
        refine r_aload_n (pc := 27) C 0 dX8_newDoor_27 rfl ?_
        refine r_get (pc := 28) (k := 0) (j := 8) (Cn := RX8) (T := TX8) (N := 12) C (by decide) (ce0 _) rfl iaX8 (by decide) aw39 rfl rfl dX8_newDoor_28 ?_
        refine r_aload_n (pc := 31) C 0 dX8_newDoor_31 rfl ?_
        refine r_get (pc := 32) (k := 0) (j := 4) (Cn := RX8) (T := TX8) (N := 12) C (by decide) (ce0 _) rfl iaX8 (by decide) aw29 rfl rfl dX8_newDoor_32 ?_
        refine r_aload_n (pc := 35) C 0 dX8_newDoor_35 rfl ?_
        refine r_get (pc := 36) (k := 0) (j := 7) (Cn := RX8) (T := TX8) (N := 12) C (by decide) (ce0 _) rfl iaX8 (by decide) aw35 rfl rfl dX8_newDoor_36 ?_
        refine r_iload_n (pc := 39) C 1 dX8_newDoor_39 rfl ?_
        have hM := c_X7_take X 41 (show kd 41 = 6 from rfl) M7 x1 _ h
        refine q_s0 (s1 := List.reverse [.ref (ad X 41), .ref (ad X 29), .int x1] ++ .ref (ad X 32) :: []) rfl ?_
        refine r_callVNv (pc := 40) (k := 32) (As := [.ref (ad X 41), .ref (ad X 29), .int x1]) (st := []) C 3 (by decide) (ce32 _) rfl aw636 aw637 hM nm42 aw638 aw38 yd_X7_take ⟨rfl, rfl⟩ ⟨Nat.le_of_ble_eq_true rfl, Nat.le_of_ble_eq_true rfl⟩ rfl (Nat.le_of_ble_eq_true rfl) dX8_newDoor_40 (fun M10 h => ?_)
        refine r_ldcw (pc := 43) C aw753 dX8_newDoor_43 ?_
        refine r_istore (pc := 46) (lv2 := [(4, .int (-1000000)), (0, .ref (ad X 0)), (1, .int x1), (2, .int x2), (3, .int x3)]) C dX8_newDoor_46 (by decide) rfl ?_
        refine r_ldcw (pc := 48) C aw753 dX8_newDoor_48 ?_
        refine r_istore (pc := 51) (lv2 := [(5, .int (-1000000)), (4, .int (-1000000)), (0, .ref (ad X 0)), (1, .int x1), (2, .int x2), (3, .int x3)]) C dX8_newDoor_51 (by decide) rfl ?_
        refine r_iconst (pc := 53) (v := 0) C dX8_newDoor_53 (by decide) ?_
        refine r_istore (pc := 54) (lv2 := [(6, .int 0), (5, .int (-1000000)), (4, .int (-1000000)), (0, .ref (ad X 0)), (1, .int x1), (2, .int x2), (3, .int x3)]) C dX8_newDoor_54 (by decide) rfl ?_
        obtain ⟨n12, h⟩ := h
        refine r_sub (lv2 := [(0, .ref (ad X 0)), (1, .int x1), (2, .int x2), (3, .int x3), (4, .int (-1000000)), (5, .int (-1000000)), (6, .int 0)]) [3, 4, 5, 6, 2, 1, 0] rfl ?_
        exact hL56  _ _ _ _ _ _ _ _ h
      · have h := h.2 c9
        refine r_ldc (pc := 24) C aw115 dX8_newDoor_24 ?_
        exact r_iret (pc := 26) C dX8_newDoor_26 h
theorem yd_X8_isSeen : yX8_isSeen.cls ≠ "java/lang/invoke/MethodHandle" ∧ yX8_isSeen.cls ≠ "java/lang/invoke/VarHandle" ∧ (parseMethodDescriptor yX8_isSeen.desc).map (fun d => d.parameters.length) = some 4 := by decide +kernel
def w_X8_isSeen  (M : Mem) (x1 : Int32) (x2 : Int32) (x3 : Int32) (x4 : Int32) (Q : Int32 → Mem → Prop) : Prop :=
  w_X8_isPerson  M x1 (fun r2 M1 => ((r2 = 0) → (Q 0 M1)) ∧ ((¬ r2 = 0) → (w_X8_isPerson  M1 x2 (fun r5 M4 => ((r5 = 0) → (Q 0 M4)) ∧ ((¬ r5 = 0) → (((x1 = x2) → (Q 0 M4)) ∧ ((¬ x1 = x2) → (w_X8_within  M4 x3 8 (fun r9 M8 => ((r9 = 0) → (Q 0 M8)) ∧ ((¬ r9 = 0) → (((x4 < 1) → (Q 0 M8)) ∧ ((¬ x4 < 1) → ((((M8 41 2) < x4) → (Q 0 M8)) ∧ ((¬ (M8 41 2) < x4) → (Q 1 M8)))))))))))))))
abbrev rm_X8_isSeen : Room := { frames := 9, cells := 0, slots := 0, locals := 180 }
set_option maxHeartbeats 4000000 in
set_option maxRecDepth 100000 in
theorem c_X8_isSeen (X : Cx)  (M : Mem) (x1 : Int32) (x2 : Int32) (x3 : Int32) (x4 : Int32) (Q : Int32 → Mem → Prop) (h : w_X8_isSeen  M x1 x2 x3 x4 Q) : Ct yX8_isSeen cX8_isSeen 5 (some .boolean) rm_X8_isSeen X M [.ref (ad X 0), .int x1, .int x2, .int x3, .int x4] (Qi X Q) := by
  refine ct_of (own := RX8) (lv := [(0, .ref (ad X 0)), (1, .int x1), (2, .int x2), (3, .int x3), (4, .int x4)]) rfl (by decide) (Nat.le_of_ble_eq_true rfl) rfl ?_
  intro K C
  unfold w_X8_isSeen at h
  refine r_aload_n (pc := 0) C 0 dX8_isSeen_0 rfl ?_
  refine r_iload_n (pc := 1) C 1 dX8_isSeen_1 rfl ?_
  have hM := c_X8_isPerson X  M x1 _ h
  refine q_s0 (s1 := List.reverse [.int x1] ++ .ref (ad X 0) :: []) rfl ?_
  refine r_callVi (pc := 2) (k := 0) (As := [.int x1]) (st := []) C 1 (by decide) (ce0 _) rfl aw414 aw415 hM aw413 aw416 aw2 yd_X8_isPerson ⟨rfl, rfl⟩ ⟨Nat.le_of_ble_eq_true rfl, Nat.le_of_ble_eq_true rfl⟩ rfl (Nat.le_of_ble_eq_true rfl) dX8_isSeen_2 (fun r2 M1 h => ?_)
  refine r_if_eq (pc := 5) (tgt := 52) C dX8_isSeen_5 (by decide) (fun c3 => ?_) (fun c3 => ?_)
  · have h := h.1 c3
    refine r_iconst (pc := 52) (v := 0) C dX8_isSeen_52 (by decide) ?_
    exact r_zret (pc := 53) C dX8_isSeen_53 (Or.inl rfl) h
  · have h := h.2 c3
    refine r_aload_n (pc := 8) C 0 dX8_isSeen_8 rfl ?_
    refine r_iload_n (pc := 9) C 2 dX8_isSeen_9 rfl ?_
    have hM := c_X8_isPerson X  M1 x2 _ h
    refine q_s0 (s1 := List.reverse [.int x2] ++ .ref (ad X 0) :: []) rfl ?_
    refine r_callVi (pc := 10) (k := 0) (As := [.int x2]) (st := []) C 1 (by decide) (ce0 _) rfl aw414 aw415 hM aw413 aw416 aw2 yd_X8_isPerson ⟨rfl, rfl⟩ ⟨Nat.le_of_ble_eq_true rfl, Nat.le_of_ble_eq_true rfl⟩ rfl (Nat.le_of_ble_eq_true rfl) dX8_isSeen_10 (fun r5 M4 h => ?_)
    refine r_if_eq (pc := 13) (tgt := 52) C dX8_isSeen_13 (by decide) (fun c6 => ?_) (fun c6 => ?_)
    · have h := h.1 c6
      refine r_iconst (pc := 52) (v := 0) C dX8_isSeen_52 (by decide) ?_
      exact r_zret (pc := 53) C dX8_isSeen_53 (Or.inl rfl) h
    · have h := h.2 c6
      refine r_iload_n (pc := 16) C 1 dX8_isSeen_16 rfl ?_
      refine r_iload_n (pc := 17) C 2 dX8_isSeen_17 rfl ?_
      refine r_icmp_eq (pc := 18) (tgt := 52) C dX8_isSeen_18 (by decide) (fun c7 => ?_) (fun c7 => ?_)
      · have h := h.1 c7
        refine r_iconst (pc := 52) (v := 0) C dX8_isSeen_52 (by decide) ?_
        exact r_zret (pc := 53) C dX8_isSeen_53 (Or.inl rfl) h
      · have h := h.2 c7
        refine r_iload_n (pc := 21) C 3 dX8_isSeen_21 rfl ?_
        refine r_bipush (pc := 22) (v := 8) C dX8_isSeen_22 (by decide) ?_
        have hM := c_X8_within X  M4 x3 8 _ h
        refine q_s0 (s1 := List.reverse [.int x3, .int 8] ++ []) rfl ?_
        refine r_callSi (pc := 24) (As := [.int x3, .int 8]) (st := []) C 2 hM aw116 aw117 aw118 aw2 yd_X8_within ⟨rfl, rfl⟩ ⟨Nat.le_of_ble_eq_true rfl, Nat.le_of_ble_eq_true rfl⟩ rfl (Nat.le_of_ble_eq_true rfl) dX8_isSeen_24 (fun r9 M8 h => ?_)
        refine r_if_eq (pc := 27) (tgt := 52) C dX8_isSeen_27 (by decide) (fun c10 => ?_) (fun c10 => ?_)
        · have h := h.1 c10
          refine r_iconst (pc := 52) (v := 0) C dX8_isSeen_52 (by decide) ?_
          exact r_zret (pc := 53) C dX8_isSeen_53 (Or.inl rfl) h
        · have h := h.2 c10
          refine r_iload (pc := 30) C 4 dX8_isSeen_30 rfl ?_
          refine r_iconst (pc := 32) (v := 1) C dX8_isSeen_32 (by decide) ?_
          refine r_icmp_lt (pc := 33) (tgt := 52) C dX8_isSeen_33 (by decide) (fun c11 => ?_) (fun c11 => ?_)
          · have h := h.1 c11
            refine r_iconst (pc := 52) (v := 0) C dX8_isSeen_52 (by decide) ?_
            exact r_zret (pc := 53) C dX8_isSeen_53 (Or.inl rfl) h
          · have h := h.2 c11
            refine r_iload (pc := 36) C 4 dX8_isSeen_36 rfl ?_
            refine r_aload_n (pc := 38) C 0 dX8_isSeen_38 rfl ?_
            refine r_get (pc := 39) (k := 0) (j := 4) (Cn := RX8) (T := TX8) (N := 12) C (by decide) (ce0 _) rfl iaX8 (by decide) aw29 rfl rfl dX8_isSeen_39 ?_
            refine r_getN (pc := 42) (k := 41) (j := 2) (Cn := RX6) (T := TX6) (N := 16) C (bdT (show kd 41 = 6 from rfl)) (ceT (show kd 41 = 6 from rfl) _) rfl iaX6 (by decide) nf11 rfl rfl dX8_isSeen_42 ?_
            refine r_icmp_gt (pc := 45) (tgt := 52) C dX8_isSeen_45 (by decide) (fun c12 => ?_) (fun c12 => ?_)
            · have h := h.1 c12
              refine r_iconst (pc := 52) (v := 0) C dX8_isSeen_52 (by decide) ?_
              exact r_zret (pc := 53) C dX8_isSeen_53 (Or.inl rfl) h
            · have h := h.2 c12
              refine r_iconst (pc := 48) (v := 1) C dX8_isSeen_48 (by decide) ?_
              refine r_goto (pc := 49) (tgt := 53) C dX8_isSeen_49 (by decide) ?_
              exact r_zret (pc := 53) C dX8_isSeen_53 (Or.inr rfl) h
theorem yd_X8_isSo : yX8_isSo.cls ≠ "java/lang/invoke/MethodHandle" ∧ yX8_isSo.cls ≠ "java/lang/invoke/VarHandle" ∧ (parseMethodDescriptor yX8_isSo.desc).map (fun d => d.parameters.length) = some 4 := by decide +kernel
def wJ_X8_isSo_48 (k2 : Nat) (Q : Int32 → Mem → Prop) (R3 : Mem → Int32 → Int32 → Int32 → Int32 → Prop) (M : Mem) (x1 : Int32) (x3 : Int32) (x4 : Int32) (x5 : Int32) (s0 : Int32) (s1 : Int32) : Prop :=
  ((s0 = s1) → (∀ v2 : Int32, v2 = x5 + 1 → (R3 M x1 x3 x4 v2))) ∧ ((¬ s0 = s1) → (Q 0 M))
def wB_X8_isSo_3 (k2 : Nat) (Q : Int32 → Mem → Prop)  (R3 : Mem → Int32 → Int32 → Int32 → Int32 → Prop) (M : Mem) (x1 : Int32) (x3 : Int32) (x4 : Int32) (x5 : Int32) : Prop :=
  ((x4 ≤ x5) → (Q 1 M)) ∧ ((¬ x4 ≤ x5) → (∀ v2 : Int32, v2 = (x3 + x5) → (vp_in v2 40 ∧ (∀ v4 : Int32, v4 = (M (k2 + 1) (Int32.toNatClampNeg v2)) → (((v4 = (-1)) → (∀ v6 : Int32, v6 = x5 + 1 → (R3 M x1 x3 x4 v6))) ∧ ((¬ v4 = (-1)) → (w_X8_opens 52 M x1 x5 (fun r8 M7 => ((r8 = 0) → (wJ_X8_isSo_48 k2 Q R3 M7 x1 x3 x4 x5 v4 0)) ∧ ((¬ r8 = 0) → (wJ_X8_isSo_48 k2 Q R3 M7 x1 x3 x4 x5 v4 1))))))))))
def wL_X8_isSo_3 (k2 : Nat) (Q : Int32 → Mem → Prop)  : Nat → Mem → Int32 → Int32 → Int32 → Int32 → Prop
  | 0 => fun _ _ _ _ _ => False
  | n + 1 => fun M x1 x3 x4 x5 => wB_X8_isSo_3 k2 Q  (wL_X8_isSo_3 k2 Q  n) M x1 x3 x4 x5
theorem wL_X8_isSo_3_s {k2 : Nat} {Q : Int32 → Mem → Prop}  {n : Nat} {M : Mem} {x1 : Int32} {x3 : Int32} {x4 : Int32} {x5 : Int32} (h : wL_X8_isSo_3 k2 Q  (n + 1) M x1 x3 x4 x5) : wB_X8_isSo_3 k2 Q  (wL_X8_isSo_3 k2 Q  n) M x1 x3 x4 x5 := h
def w_X8_isSo (k2 : Nat) (M : Mem) (x1 : Int32) (x3 : Int32) (x4 : Int32) (Q : Int32 → Mem → Prop) : Prop :=
  ∃ n1 : Nat, wL_X8_isSo_3 k2 Q  n1 M x1 x3 x4 0
abbrev rm_X8_isSo : Room := { frames := 15, cells := 0, slots := 0, locals := 300 }
set_option maxHeartbeats 4000000 in
set_option maxRecDepth 100000 in
theorem c_X8_isSo (X : Cx) (k2 : Nat) (h2 : kd k2 = 4) (M : Mem) (x1 : Int32) (x3 : Int32) (x4 : Int32) (Q : Int32 → Mem → Prop) (h : w_X8_isSo k2 M x1 x3 x4 Q) : Ct yX8_isSo cX8_isSo 7 (some .boolean) rm_X8_isSo X M [.ref (ad X 0), .int x1, .ref (ad X k2), .int x3, .int x4] (Qi X Q) := by
  refine ct_of (own := RX8) (lv := [(0, .ref (ad X 0)), (1, .int x1), (2, .ref (ad X k2)), (3, .int x3), (4, .int x4)]) rfl (by decide) (Nat.le_of_ble_eq_true rfl) rfl ?_
  intro K C
  have hJ48 : ∀ (R3 : Mem → Int32 → Int32 → Int32 → Int32 → Prop) (hR3 : ∀ (M : Mem) (x1 : Int32) (x3 : Int32) (x4 : Int32) (x5 : Int32), R3 M x1 x3 x4 x5 → WX K X 7 (Qi X Q) M 3 [(0, .ref (ad X 0)), (1, .int x1), (2, .ref (ad X k2)), (3, .int x3), (4, .int x4), (5, .int x5)] []) (M : Mem) (x1 : Int32) (x3 : Int32) (x4 : Int32) (x5 : Int32) (s0 : Int32) (s1 : Int32), wJ_X8_isSo_48 k2 Q R3 M x1 x3 x4 x5 s0 s1 → WX K X 7 (Qi X Q) M 48 [(0, .ref (ad X 0)), (1, .int x1), (2, .ref (ad X k2)), (3, .int x3), (4, .int x4), (5, .int x5)] [.int s1, .int s0] := by
    intro R3 hR3 M x1 x3 x4 x5 s0 s1 h
    unfold wJ_X8_isSo_48 at h
    refine r_icmp_eq (pc := 48) (tgt := 53) C dX8_isSo_48 (by decide) (fun c1 => ?_) (fun c1 => ?_)
    · have h := h.1 c1
      obtain ⟨v2, ev2⟩ : ∃ z : Int32, z = x5 + 1 := ⟨_, rfl⟩
      replace h := h v2 ev2
      refine r_iinc (pc := 53) (v := v2) (lv2 := [(5, .int v2), (0, .ref (ad X 0)), (1, .int x1), (2, .ref (ad X k2)), (3, .int x3), (4, .int x4)]) C 5 dX8_isSo_53 rfl (by rw [ev2]; rfl) (by decide) rfl ?_
      refine r_goto (pc := 56) (tgt := 3) C dX8_isSo_56 (by decide) ?_
      refine r_sub (lv2 := [(0, .ref (ad X 0)), (1, .int x1), (2, .ref (ad X k2)), (3, .int x3), (4, .int x4), (5, .int v2)]) [1, 2, 3, 4, 5, 0] rfl ?_
      exact hR3 _ _ _ _ _ h
    · have h := h.2 c1
      refine r_iconst (pc := 51) (v := 0) C dX8_isSo_51 (by decide) ?_
      exact r_zret (pc := 52) C dX8_isSo_52 (Or.inl rfl) h
  have hL3 : ∀  (n : Nat) (M : Mem) (x1 : Int32) (x3 : Int32) (x4 : Int32) (x5 : Int32), wL_X8_isSo_3 k2 Q  n M x1 x3 x4 x5 → WX K X 7 (Qi X Q) M 3 [(0, .ref (ad X 0)), (1, .int x1), (2, .ref (ad X k2)), (3, .int x3), (4, .int x4), (5, .int x5)] [] := by
    intro  n
    induction n with
    | zero => intro M x1 x3 x4 x5 h; exact absurd h id
    | succ n ih =>
      intro M x1 x3 x4 x5 h
      replace h := wL_X8_isSo_3_s h
      unfold wB_X8_isSo_3 at h
      refine r_iload (pc := 3) C 5 dX8_isSo_3 rfl ?_
      refine r_iload (pc := 5) C 4 dX8_isSo_5 rfl ?_
      refine r_icmp_ge (pc := 7) (tgt := 59) C dX8_isSo_7 (by decide) (fun c1 => ?_) (fun c1 => ?_)
      · have h := h.1 c1
        refine r_iconst (pc := 59) (v := 1) C dX8_isSo_59 (by decide) ?_
        exact r_zret (pc := 60) C dX8_isSo_60 (Or.inr rfl) h
      · have h := h.2 c1
        refine r_aload_n (pc := 10) C 2 dX8_isSo_10 rfl ?_
        refine r_getN (pc := 11) (k := k2) (j := 0) (Cn := RX4) (T := TX4) (N := 3) C (bdR h2) (ceR h2 _) rfl iaX4 (by decide) nf44 rfl rfl dX8_isSo_11 ?_
        refine r_iload_n (pc := 14) C 3 dX8_isSo_14 rfl ?_
        refine r_iload (pc := 15) C 5 dX8_isSo_15 rfl ?_
        refine r_iadd (pc := 17) C dX8_isSo_17 ?_
        refine r_topi (fun v2 ev2 => ?_)
        replace h := h v2 ev2
        obtain ⟨g3, h⟩ := h
        refine q_iald (pc := 18) (k := (k2 + 1)) (n := 40) (j := (Int32.toNatClampNeg v2)) C (bdR1 h2) (ceR1 h2 _) g3 rfl dX8_isSo_18 ?_
        refine r_topi (fun v4 ev4 => ?_)
        replace h := h v4 ev4
        refine r_istore (pc := 19) (lv2 := [(6, .int v4), (0, .ref (ad X 0)), (1, .int x1), (2, .ref (ad X k2)), (3, .int x3), (4, .int x4), (5, .int x5)]) C dX8_isSo_19 (by decide) rfl ?_
        refine r_iload (pc := 21) C 0 dX8_isSo_21 rfl ?_
        refine r_iconst (pc := 23) (v := (-1)) C dX8_isSo_23 (by decide) ?_
        refine r_icmp_eq (pc := 24) (tgt := 53) C dX8_isSo_24 (by decide) (fun c5 => ?_) (fun c5 => ?_)
        · have h := h.1 c5
          obtain ⟨v6, ev6⟩ : ∃ z : Int32, z = x5 + 1 := ⟨_, rfl⟩
          replace h := h v6 ev6
          refine r_iinc (pc := 53) (v := v6) (lv2 := [(5, .int v6), (6, .int v4), (0, .ref (ad X 0)), (1, .int x1), (2, .ref (ad X k2)), (3, .int x3), (4, .int x4)]) C 6 dX8_isSo_53 rfl (by rw [ev6]; rfl) (by decide) rfl ?_
          refine r_goto (pc := 56) (tgt := 3) C dX8_isSo_56 (by decide) ?_
          refine r_sub (lv2 := [(0, .ref (ad X 0)), (1, .int x1), (2, .ref (ad X k2)), (3, .int x3), (4, .int x4), (5, .int v6)]) [2, 3, 4, 5, 6, 0] rfl ?_
          exact ih _ _ _ _ _ h
        · have h := h.2 c5
          refine r_iload (pc := 27) C 0 dX8_isSo_27 rfl ?_
          refine r_aload_n (pc := 29) C 1 dX8_isSo_29 rfl ?_
          refine r_aload_n (pc := 30) C 1 dX8_isSo_30 rfl ?_
          refine r_get (pc := 31) (k := 0) (j := 5) (Cn := RX8) (T := TX8) (N := 12) C (by decide) (ce0 _) rfl iaX8 (by decide) aw30 rfl rfl dX8_isSo_31 ?_
          refine r_iload_n (pc := 34) C 2 dX8_isSo_34 rfl ?_
          refine r_iload (pc := 35) C 6 dX8_isSo_35 rfl ?_
          have hM := c_X8_opens X 52 (show kd 52 = 6 from rfl) M x1 x5 _ h
          refine q_s0 (s1 := List.reverse [.ref (ad X 52), .int x1, .int x5] ++ .ref (ad X 0) :: [.int v4]) rfl ?_
          refine r_callVi (pc := 37) (k := 0) (As := [.ref (ad X 52), .int x1, .int x5]) (st := [.int v4]) C 3 (by decide) (ce0 _) rfl aw425 aw426 hM aw424 aw427 aw2 yd_X8_opens ⟨rfl, rfl⟩ ⟨Nat.le_of_ble_eq_true rfl, Nat.le_of_ble_eq_true rfl⟩ rfl (Nat.le_of_ble_eq_true rfl) dX8_isSo_37 (fun r8 M7 h => ?_)
          refine r_if_eq (pc := 40) (tgt := 47) C dX8_isSo_40 (by decide) (fun c9 => ?_) (fun c9 => ?_)
          · have h := h.1 c9
            refine r_iconst (pc := 47) (v := 0) C dX8_isSo_47 (by decide) ?_
            refine r_sub (lv2 := [(0, .ref (ad X 0)), (1, .int x1), (2, .ref (ad X k2)), (3, .int x3), (4, .int x4), (5, .int x5)]) [1, 2, 3, 4, 5, 6] rfl ?_
            exact hJ48 _ ih _ _ _ _ _ _ _ h
          · have h := h.2 c9
            refine r_iconst (pc := 43) (v := 1) C dX8_isSo_43 (by decide) ?_
            refine r_goto (pc := 44) (tgt := 48) C dX8_isSo_44 (by decide) ?_
            refine r_sub (lv2 := [(0, .ref (ad X 0)), (1, .int x1), (2, .ref (ad X k2)), (3, .int x3), (4, .int x4), (5, .int x5)]) [1, 2, 3, 4, 5, 6] rfl ?_
            exact hJ48 _ ih _ _ _ _ _ _ _ h
  unfold w_X8_isSo at h
  refine r_iconst (pc := 0) (v := 0) C dX8_isSo_0 (by decide) ?_
  refine r_istore (pc := 1) (lv2 := [(5, .int 0), (0, .ref (ad X 0)), (1, .int x1), (2, .ref (ad X k2)), (3, .int x3), (4, .int x4)]) C dX8_isSo_1 (by decide) rfl ?_
  obtain ⟨n1, h⟩ := h
  refine r_sub (lv2 := [(0, .ref (ad X 0)), (1, .int x1), (2, .ref (ad X k2)), (3, .int x3), (4, .int x4), (5, .int 0)]) [1, 2, 3, 4, 5, 0] rfl ?_
  exact hL3  _ _ _ _ _ _ h
theorem yd_X8_bents : yX8_bents.cls ≠ "java/lang/invoke/MethodHandle" ∧ yX8_bents.cls ≠ "java/lang/invoke/VarHandle" ∧ (parseMethodDescriptor yX8_bents.desc).map (fun d => d.parameters.length) = some 6 := by decide +kernel
def wB_X8_bents_74  (Q : Int32 → Mem → Prop)  (R74 : Mem → Int32 → Int32 → Int32 → Int32 → Int32 → Int32 → Int32 → Int32 → Int32 → Prop) (M : Mem) (x1 : Int32) (x2 : Int32) (x3 : Int32) (x4 : Int32) (x5 : Int32) (x6 : Int32) (x8 : Int32) (x9 : Int32) (x10 : Int32) : Prop :=
  ((x10 < 0) → (((¬ x6 = 0) → (w_X8_unfound  M x9 (fun r4 M3 => Q r4 M3))) ∧ ((x6 = 0) → (w_X8_unfound  M x8 (fun r6 M5 => Q r6 M5))))) ∧ ((¬ x10 < 0) → (vp_in x1 6 ∧ (∀ M8 : Mem, M8 = ms M (52 + 5) (Int32.toNatClampNeg x1) x10 → (vp_in x3 8 ∧ (w_X8_isSo (3 + 2 * Int32.toNatClampNeg x3) M8 x2 x4 x5 (fun r11 M10 => ((r11 = 0) → (∀ v13 : Int32, v13 = x10 + (-1) → (R74 M10 x1 x2 x3 x4 x5 x6 x8 x9 v13))) ∧ ((¬ r11 = 0) → (∀ v14 : Int32, v14 = x8 + 1 → (∀ v15 : Int32, v15 = x10 + (-1) → (R74 M10 x1 x2 x3 x4 x5 x6 v14 x10 v15))))))))))
def wL_X8_bents_74  (Q : Int32 → Mem → Prop)  : Nat → Mem → Int32 → Int32 → Int32 → Int32 → Int32 → Int32 → Int32 → Int32 → Int32 → Prop
  | 0 => fun _ _ _ _ _ _ _ _ _ _ => False
  | n + 1 => fun M x1 x2 x3 x4 x5 x6 x8 x9 x10 => wB_X8_bents_74  Q  (wL_X8_bents_74  Q  n) M x1 x2 x3 x4 x5 x6 x8 x9 x10
theorem wL_X8_bents_74_s  {Q : Int32 → Mem → Prop}  {n : Nat} {M : Mem} {x1 : Int32} {x2 : Int32} {x3 : Int32} {x4 : Int32} {x5 : Int32} {x6 : Int32} {x8 : Int32} {x9 : Int32} {x10 : Int32} (h : wL_X8_bents_74  Q  (n + 1) M x1 x2 x3 x4 x5 x6 x8 x9 x10) : wB_X8_bents_74  Q  (wL_X8_bents_74  Q  n) M x1 x2 x3 x4 x5 x6 x8 x9 x10 := h
def w_X8_bents  (M : Mem) (x1 : Int32) (x2 : Int32) (x3 : Int32) (x4 : Int32) (x5 : Int32) (x6 : Int32) (Q : Int32 → Mem → Prop) : Prop :=
  w_X8_isSeen  M x1 x2 x3 x5 (fun r2 M1 => ((r2 = 0) → (Q (-1000001) M1)) ∧ ((¬ r2 = 0) → (w_X8_within  M1 x6 2 (fun r5 M4 => ((¬ r5 = 0) → (vp_in x3 8 ∧ (w_X4_findingOf (3 + 2 * Int32.toNatClampNeg x3) M4 x4 x5 (fun r9 M8 => ((r9 = 0) → (w_X6_become 52 41 M8  (fun M11 => ∃ n13 : Nat, wL_X8_bents_74  Q  n13 M11 x1 x2 x3 x4 x5 x6 0 (-1000000) 6))) ∧ ((¬ r9 = 0) → (w_X8_finding  M8 r9 (fun r15 M14 => Q r15 M14))))))) ∧ ((r5 = 0) → (Q (-1000001) M4))))))
abbrev rm_X8_bents : Room := { frames := 18, cells := 0, slots := 0, locals := 360 }
set_option maxHeartbeats 4000000 in
set_option maxRecDepth 100000 in
theorem c_X8_bents (X : Cx)  (M : Mem) (x1 : Int32) (x2 : Int32) (x3 : Int32) (x4 : Int32) (x5 : Int32) (x6 : Int32) (Q : Int32 → Mem → Prop) (h : w_X8_bents  M x1 x2 x3 x4 x5 x6 Q) : Ct yX8_bents cX8_bents 11 (some .int) rm_X8_bents X M [.ref (ad X 0), .int x1, .int x2, .int x3, .int x4, .int x5, .int x6] (Qi X Q) := by
  refine ct_of (own := RX8) (lv := [(0, .ref (ad X 0)), (1, .int x1), (2, .int x2), (3, .int x3), (4, .int x4), (5, .int x5), (6, .int x6)]) rfl (by decide) (Nat.le_of_ble_eq_true rfl) rfl ?_
  intro K C
  have hL74 : ∀  (n : Nat) (M : Mem) (x1 : Int32) (x2 : Int32) (x3 : Int32) (x4 : Int32) (x5 : Int32) (x6 : Int32) (x8 : Int32) (x9 : Int32) (x10 : Int32), wL_X8_bents_74  Q  n M x1 x2 x3 x4 x5 x6 x8 x9 x10 → WX K X 11 (Qi X Q) M 74 [(0, .ref (ad X 0)), (1, .int x1), (2, .int x2), (3, .int x3), (4, .int x4), (5, .int x5), (6, .int x6), (8, .int x8), (9, .int x9), (10, .int x10)] [] := by
    intro  n
    induction n with
    | zero => intro M x1 x2 x3 x4 x5 x6 x8 x9 x10 h; exact absurd h id
    | succ n ih =>
      intro M x1 x2 x3 x4 x5 x6 x8 x9 x10 h
      replace h := wL_X8_bents_74_s h
      unfold wB_X8_bents_74 at h
      refine r_iload (pc := 74) C 9 dX8_bents_74 rfl ?_
      refine r_if_lt (pc := 76) (tgt := 121) C dX8_bents_76 (by decide) (fun c1 => ?_) (fun c1 => ?_)
      · have h := h.1 c1
        refine r_aload_n (pc := 121) C 0 dX8_bents_121 rfl ?_
        refine r_iload (pc := 122) C 6 dX8_bents_122 rfl ?_
        refine r_if_ne (pc := 124) (tgt := 132) C dX8_bents_124 (by decide) (fun c2 => ?_) (fun c2 => ?_)
        · have h := h.1 c2
          refine r_iload (pc := 132) C 8 dX8_bents_132 rfl ?_
          have hM := c_X8_unfound X  M x9 _ h
          refine q_s0 (s1 := List.reverse [.int x9] ++ .ref (ad X 0) :: []) rfl ?_
          refine r_callVi (pc := 134) (k := 0) (As := [.int x9]) (st := []) C 1 (by decide) (ce0 _) rfl aw134 aw135 hM aw133 aw136 aw2 yd_X8_unfound ⟨rfl, rfl⟩ ⟨Nat.le_of_ble_eq_true rfl, Nat.le_of_ble_eq_true rfl⟩ rfl (Nat.le_of_ble_eq_true rfl) dX8_bents_134 (fun r4 M3 h => ?_)
          exact r_iret (pc := 137) C dX8_bents_137 h
        · have h := h.2 c2
          refine r_iload (pc := 127) C 7 dX8_bents_127 rfl ?_
          refine r_goto (pc := 129) (tgt := 134) C dX8_bents_129 (by decide) ?_
          have hM := c_X8_unfound X  M x8 _ h
          refine q_s0 (s1 := List.reverse [.int x8] ++ .ref (ad X 0) :: []) rfl ?_
          refine r_callVi (pc := 134) (k := 0) (As := [.int x8]) (st := []) C 1 (by decide) (ce0 _) rfl aw134 aw135 hM aw133 aw136 aw2 yd_X8_unfound ⟨rfl, rfl⟩ ⟨Nat.le_of_ble_eq_true rfl, Nat.le_of_ble_eq_true rfl⟩ rfl (Nat.le_of_ble_eq_true rfl) dX8_bents_134 (fun r6 M5 h => ?_)
          exact r_iret (pc := 137) C dX8_bents_137 h
      · have h := h.2 c1
        refine r_aload_n (pc := 79) C 0 dX8_bents_79 rfl ?_
        refine r_get (pc := 80) (k := 0) (j := 5) (Cn := RX8) (T := TX8) (N := 12) C (by decide) (ce0 _) rfl iaX8 (by decide) aw30 rfl rfl dX8_bents_80 ?_
        refine r_getN (pc := 83) (k := 52) (j := 10) (Cn := RX6) (T := TX6) (N := 16) C (bdT (show kd 52 = 6 from rfl)) (ceT (show kd 52 = 6 from rfl) _) rfl iaX6 (by decide) nf28 rfl rfl dX8_bents_83 ?_
        refine r_iload_n (pc := 86) C 1 dX8_bents_86 rfl ?_
        refine r_iload (pc := 87) C 9 dX8_bents_87 rfl ?_
        obtain ⟨g7, h⟩ := h
        refine q_iast (pc := 89) (k := (52 + 5)) (n := 6) (j := (Int32.toNatClampNeg x1)) C (bdT5 (show kd 52 = 6 from rfl)) (ceT5 (show kd 52 = 6 from rfl)) g7 rfl dX8_bents_89 ?_
        refine r_topM (fun M8 eM8 => ?_)
        replace h := h M8 eM8
        refine r_aload_n (pc := 90) C 0 dX8_bents_90 rfl ?_
        refine r_iload_n (pc := 91) C 2 dX8_bents_91 rfl ?_
        refine r_aload_n (pc := 92) C 0 dX8_bents_92 rfl ?_
        refine r_get (pc := 93) (k := 0) (j := 0) (Cn := RX8) (T := TX8) (N := 12) C (by decide) (ce0 _) rfl iaX8 (by decide) aw13 rfl rfl dX8_bents_93 ?_
        refine r_iload_n (pc := 96) C 3 dX8_bents_96 rfl ?_
        obtain ⟨g9, h⟩ := h
        refine r_aldR (pc := 97) C g9 dX8_bents_97 ?_
        refine r_iload (pc := 98) C 4 dX8_bents_98 rfl ?_
        refine r_iload (pc := 100) C 5 dX8_bents_100 rfl ?_
        have hM := c_X8_isSo X (3 + 2 * Int32.toNatClampNeg x3) (kdRow g9) M8 x2 x4 x5 _ h
        refine q_s0 (s1 := List.reverse [.int x2, .ref (ad X (3 + 2 * Int32.toNatClampNeg x3)), .int x4, .int x5] ++ .ref (ad X 0) :: []) rfl ?_
        refine r_callVi (pc := 102) (k := 0) (As := [.int x2, .ref (ad X (3 + 2 * Int32.toNatClampNeg x3)), .int x4, .int x5]) (st := []) C 4 (by decide) (ce0 _) rfl aw788 aw789 hM aw787 aw790 aw2 yd_X8_isSo ⟨rfl, rfl⟩ ⟨Nat.le_of_ble_eq_true rfl, Nat.le_of_ble_eq_true rfl⟩ rfl (Nat.le_of_ble_eq_true rfl) dX8_bents_102 (fun r11 M10 h => ?_)
        refine r_if_eq (pc := 105) (tgt := 115) C dX8_bents_105 (by decide) (fun c12 => ?_) (fun c12 => ?_)
        · have h := h.1 c12
          obtain ⟨v13, ev13⟩ : ∃ z : Int32, z = x10 + (-1) := ⟨_, rfl⟩
          replace h := h v13 ev13
          refine r_iinc (pc := 115) (v := v13) (lv2 := [(10, .int v13), (0, .ref (ad X 0)), (1, .int x1), (2, .int x2), (3, .int x3), (4, .int x4), (5, .int x5), (6, .int x6), (8, .int x8), (9, .int x9)]) C 9 dX8_bents_115 rfl (by rw [ev13]; rfl) (by decide) rfl ?_
          refine r_goto (pc := 118) (tgt := 74) C dX8_bents_118 (by decide) ?_
          refine r_sub (lv2 := [(0, .ref (ad X 0)), (1, .int x1), (2, .int x2), (3, .int x3), (4, .int x4), (5, .int x5), (6, .int x6), (8, .int x8), (9, .int x9), (10, .int v13)]) [1, 2, 3, 4, 5, 6, 7, 8, 9, 0] rfl ?_
          exact ih _ _ _ _ _ _ _ _ _ _ h
        · have h := h.2 c12
          obtain ⟨v14, ev14⟩ : ∃ z : Int32, z = x8 + 1 := ⟨_, rfl⟩
          replace h := h v14 ev14
          refine r_iinc (pc := 108) (v := v14) (lv2 := [(8, .int v14), (0, .ref (ad X 0)), (1, .int x1), (2, .int x2), (3, .int x3), (4, .int x4), (5, .int x5), (6, .int x6), (9, .int x9), (10, .int x10)]) C 7 dX8_bents_108 rfl (by rw [ev14]; rfl) (by decide) rfl ?_
          refine r_iload (pc := 111) C 9 dX8_bents_111 rfl ?_
          refine r_istore (pc := 113) (lv2 := [(9, .int x10), (8, .int v14), (0, .ref (ad X 0)), (1, .int x1), (2, .int x2), (3, .int x3), (4, .int x4), (5, .int x5), (6, .int x6), (10, .int x10)]) C dX8_bents_113 (by decide) rfl ?_
          obtain ⟨v15, ev15⟩ : ∃ z : Int32, z = x10 + (-1) := ⟨_, rfl⟩
          replace h := h v15 ev15
          refine r_iinc (pc := 115) (v := v15) (lv2 := [(10, .int v15), (9, .int x10), (8, .int v14), (0, .ref (ad X 0)), (1, .int x1), (2, .int x2), (3, .int x3), (4, .int x4), (5, .int x5), (6, .int x6)]) C 9 dX8_bents_115 rfl (by rw [ev15]; rfl) (by decide) rfl ?_
          refine r_goto (pc := 118) (tgt := 74) C dX8_bents_118 (by decide) ?_
          refine r_sub (lv2 := [(0, .ref (ad X 0)), (1, .int x1), (2, .int x2), (3, .int x3), (4, .int x4), (5, .int x5), (6, .int x6), (8, .int v14), (9, .int x10), (10, .int v15)]) [3, 4, 5, 6, 7, 8, 9, 2, 1, 0] rfl ?_
          exact ih _ _ _ _ _ _ _ _ _ _ h
  unfold w_X8_bents at h
  refine r_aload_n (pc := 0) C 0 dX8_bents_0 rfl ?_
  refine r_iload_n (pc := 1) C 1 dX8_bents_1 rfl ?_
  refine r_iload_n (pc := 2) C 2 dX8_bents_2 rfl ?_
  refine r_iload_n (pc := 3) C 3 dX8_bents_3 rfl ?_
  refine r_iload (pc := 4) C 5 dX8_bents_4 rfl ?_
  have hM := c_X8_isSeen X  M x1 x2 x3 x5 _ h
  refine q_s0 (s1 := List.reverse [.int x1, .int x2, .int x3, .int x5] ++ .ref (ad X 0) :: []) rfl ?_
  refine r_callVi (pc := 6) (k := 0) (As := [.int x1, .int x2, .int x3, .int x5]) (st := []) C 4 (by decide) (ce0 _) rfl aw784 aw785 hM aw783 aw786 aw2 yd_X8_isSeen ⟨rfl, rfl⟩ ⟨Nat.le_of_ble_eq_true rfl, Nat.le_of_ble_eq_true rfl⟩ rfl (Nat.le_of_ble_eq_true rfl) dX8_bents_6 (fun r2 M1 h => ?_)
  refine r_if_eq (pc := 9) (tgt := 21) C dX8_bents_9 (by decide) (fun c3 => ?_) (fun c3 => ?_)
  · have h := h.1 c3
    refine r_ldc (pc := 21) C aw115 dX8_bents_21 ?_
    exact r_iret (pc := 23) C dX8_bents_23 h
  · have h := h.2 c3
    refine r_iload (pc := 12) C 6 dX8_bents_12 rfl ?_
    refine r_iconst (pc := 14) (v := 2) C dX8_bents_14 (by decide) ?_
    have hM := c_X8_within X  M1 x6 2 _ h
    refine q_s0 (s1 := List.reverse [.int x6, .int 2] ++ []) rfl ?_
    refine r_callSi (pc := 15) (As := [.int x6, .int 2]) (st := []) C 2 hM aw116 aw117 aw118 aw2 yd_X8_within ⟨rfl, rfl⟩ ⟨Nat.le_of_ble_eq_true rfl, Nat.le_of_ble_eq_true rfl⟩ rfl (Nat.le_of_ble_eq_true rfl) dX8_bents_15 (fun r5 M4 h => ?_)
    refine r_if_ne (pc := 18) (tgt := 24) C dX8_bents_18 (by decide) (fun c6 => ?_) (fun c6 => ?_)
    · have h := h.1 c6
      refine r_aload_n (pc := 24) C 0 dX8_bents_24 rfl ?_
      refine r_get (pc := 25) (k := 0) (j := 0) (Cn := RX8) (T := TX8) (N := 12) C (by decide) (ce0 _) rfl iaX8 (by decide) aw13 rfl rfl dX8_bents_25 ?_
      refine r_iload_n (pc := 28) C 3 dX8_bents_28 rfl ?_
      obtain ⟨g7, h⟩ := h
      refine r_aldR (pc := 29) C g7 dX8_bents_29 ?_
      refine r_iload (pc := 30) C 4 dX8_bents_30 rfl ?_
      refine r_iload (pc := 32) C 5 dX8_bents_32 rfl ?_
      have hM := c_X4_findingOf X (3 + 2 * Int32.toNatClampNeg x3) (kdRow g7) M4 x4 x5 _ h
      refine q_s0 (s1 := List.reverse [.int x4, .int x5] ++ .ref (ad X (3 + 2 * Int32.toNatClampNeg x3)) :: []) rfl ?_
      refine r_callVNi (pc := 34) (k := (3 + 2 * Int32.toNatClampNeg x3)) (As := [.int x4, .int x5]) (st := []) C 2 (bdR (kdRow g7)) (ceR (kdRow g7) _) rfl aw164 aw165 hM nm9 aw166 aw45 yd_X4_findingOf ⟨rfl, rfl⟩ ⟨Nat.le_of_ble_eq_true rfl, Nat.le_of_ble_eq_true rfl⟩ rfl (Nat.le_of_ble_eq_true rfl) dX8_bents_34 (fun r9 M8 h => ?_)
      refine r_istore (pc := 37) (lv2 := [(7, .int r9), (0, .ref (ad X 0)), (1, .int x1), (2, .int x2), (3, .int x3), (4, .int x4), (5, .int x5), (6, .int x6)]) C dX8_bents_37 (by decide) rfl ?_
      refine r_iload (pc := 39) C 0 dX8_bents_39 rfl ?_
      refine r_if_eq (pc := 41) (tgt := 51) C dX8_bents_41 (by decide) (fun c10 => ?_) (fun c10 => ?_)
      · have h := h.1 c10
        refine r_aload_n (pc := 51) C 1 dX8_bents_51 rfl ?_
        refine r_get (pc := 52) (k := 0) (j := 5) (Cn := RX8) (T := TX8) (N := 12) C (by decide) (ce0 _) rfl iaX8 (by decide) aw30 rfl rfl dX8_bents_52 ?_
        refine r_aload_n (pc := 55) C 1 dX8_bents_55 rfl ?_
        refine r_get (pc := 56) (k := 0) (j := 4) (Cn := RX8) (T := TX8) (N := 12) C (by decide) (ce0 _) rfl iaX8 (by decide) aw29 rfl rfl dX8_bents_56 ?_
        have hM := c_X6_become X 52 (show kd 52 = 6 from rfl) 41 (show kd 41 = 6 from rfl) M8  _ h
        refine q_s0 (s1 := List.reverse [.ref (ad X 41)] ++ .ref (ad X 52) :: []) rfl ?_
        refine r_callVNv (pc := 59) (k := 52) (As := [.ref (ad X 41)]) (st := []) C 1 (bdT (show kd 52 = 6 from rfl)) (ceT (show kd 52 = 6 from rfl) _) rfl aw309 aw310 hM nm21 aw311 aw28 yd_X6_become ⟨rfl, rfl⟩ ⟨Nat.le_of_ble_eq_true rfl, Nat.le_of_ble_eq_true rfl⟩ rfl (Nat.le_of_ble_eq_true rfl) dX8_bents_59 (fun M11 h => ?_)
        refine r_iconst (pc := 62) (v := 0) C dX8_bents_62 (by decide) ?_
        refine r_istore (pc := 63) (lv2 := [(8, .int 0), (7, .int r9), (0, .ref (ad X 0)), (1, .int x1), (2, .int x2), (3, .int x3), (4, .int x4), (5, .int x5), (6, .int x6)]) C dX8_bents_63 (by decide) rfl ?_
        refine r_ldcw (pc := 65) C aw753 dX8_bents_65 ?_
        refine r_istore (pc := 68) (lv2 := [(9, .int (-1000000)), (8, .int 0), (7, .int r9), (0, .ref (ad X 0)), (1, .int x1), (2, .int x2), (3, .int x3), (4, .int x4), (5, .int x5), (6, .int x6)]) C dX8_bents_68 (by decide) rfl ?_
        refine r_bipush (pc := 70) (v := 6) C dX8_bents_70 (by decide) ?_
        refine r_istore (pc := 72) (lv2 := [(10, .int 6), (9, .int (-1000000)), (8, .int 0), (7, .int r9), (0, .ref (ad X 0)), (1, .int x1), (2, .int x2), (3, .int x3), (4, .int x4), (5, .int x5), (6, .int x6)]) C dX8_bents_72 (by decide) rfl ?_
        obtain ⟨n13, h⟩ := h
        refine r_sub (lv2 := [(0, .ref (ad X 0)), (1, .int x1), (2, .int x2), (3, .int x3), (4, .int x4), (5, .int x5), (6, .int x6), (8, .int 0), (9, .int (-1000000)), (10, .int 6)]) [4, 5, 6, 7, 8, 9, 10, 2, 1, 0] rfl ?_
        exact hL74  _ _ _ _ _ _ _ _ _ _ _ h
      · have h := h.2 c10
        refine r_aload_n (pc := 44) C 1 dX8_bents_44 rfl ?_
        refine r_iload (pc := 45) C 0 dX8_bents_45 rfl ?_
        have hM := c_X8_finding X  M8 r9 _ h
        refine q_s0 (s1 := List.reverse [.int r9] ++ .ref (ad X 0) :: []) rfl ?_
        refine r_callVi (pc := 47) (k := 0) (As := [.int r9]) (st := []) C 1 (by decide) (ce0 _) rfl aw120 aw121 hM aw119 aw122 aw2 yd_X8_finding ⟨rfl, rfl⟩ ⟨Nat.le_of_ble_eq_true rfl, Nat.le_of_ble_eq_true rfl⟩ rfl (Nat.le_of_ble_eq_true rfl) dX8_bents_47 (fun r15 M14 h => ?_)
        exact r_iret (pc := 50) C dX8_bents_50 h
    · have h := h.2 c6
      refine r_ldc (pc := 21) C aw115 dX8_bents_21 ?_
      exact r_iret (pc := 23) C dX8_bents_23 h
theorem yd_X8_who : yX8_who.cls ≠ "java/lang/invoke/MethodHandle" ∧ yX8_who.cls ≠ "java/lang/invoke/VarHandle" ∧ (parseMethodDescriptor yX8_who.desc).map (fun d => d.parameters.length) = some 5 := by decide +kernel
def wB_X8_who_59  (Q : Int32 → Mem → Prop)  (R59 : Mem → Int32 → Int32 → Int32 → Int32 → Int32 → Int32 → Int32 → Prop) (M : Mem) (x1 : Int32) (x2 : Int32) (x3 : Int32) (x4 : Int32) (x5 : Int32) (x7 : Int32) (x8 : Int32) : Prop :=
  ((6 ≤ x8) → (w_X8_unfound  M x7 (fun r3 M2 => Q r3 M2))) ∧ ((¬ 6 ≤ x8) → (vp_in x1 6 ∧ (∀ M5 : Mem, M5 = ms M (52 + 3) (Int32.toNatClampNeg x1) x8 → (vp_in x3 8 ∧ (w_X8_isSo (3 + 2 * Int32.toNatClampNeg x3) M5 x2 x4 x5 (fun r8 M7 => ((r8 = 0) → (∀ v10 : Int32, v10 = x8 + 1 → (R59 M7 x1 x2 x3 x4 x5 x7 v10))) ∧ ((¬ r8 = 0) → (∀ v11 : Int32, v11 = (x7 ||| (1 <<< (x8 &&& 31))) → (∀ v12 : Int32, v12 = x8 + 1 → (R59 M7 x1 x2 x3 x4 x5 v11 v12))))))))))
def wL_X8_who_59  (Q : Int32 → Mem → Prop)  : Nat → Mem → Int32 → Int32 → Int32 → Int32 → Int32 → Int32 → Int32 → Prop
  | 0 => fun _ _ _ _ _ _ _ _ => False
  | n + 1 => fun M x1 x2 x3 x4 x5 x7 x8 => wB_X8_who_59  Q  (wL_X8_who_59  Q  n) M x1 x2 x3 x4 x5 x7 x8
theorem wL_X8_who_59_s  {Q : Int32 → Mem → Prop}  {n : Nat} {M : Mem} {x1 : Int32} {x2 : Int32} {x3 : Int32} {x4 : Int32} {x5 : Int32} {x7 : Int32} {x8 : Int32} (h : wL_X8_who_59  Q  (n + 1) M x1 x2 x3 x4 x5 x7 x8) : wB_X8_who_59  Q  (wL_X8_who_59  Q  n) M x1 x2 x3 x4 x5 x7 x8 := h
def w_X8_who  (M : Mem) (x1 : Int32) (x2 : Int32) (x3 : Int32) (x4 : Int32) (x5 : Int32) (Q : Int32 → Mem → Prop) : Prop :=
  w_X8_isSeen  M x1 x2 x3 x5 (fun r2 M1 => ((¬ r2 = 0) → (vp_in x3 8 ∧ (w_X4_findingOf (3 + 2 * Int32.toNatClampNeg x3) M1 x4 x5 (fun r6 M5 => ((r6 = 0) → (w_X6_become 52 41 M5  (fun M8 => ∃ n10 : Nat, wL_X8_who_59  Q  n10 M8 x1 x2 x3 x4 x5 0 1))) ∧ ((¬ r6 = 0) → (w_X8_finding  M5 r6 (fun r12 M11 => Q r12 M11))))))) ∧ ((r2 = 0) → (Q (-1000001) M1)))
abbrev rm_X8_who : Room := { frames := 18, cells := 0, slots := 0, locals := 360 }
set_option maxHeartbeats 4000000 in
set_option maxRecDepth 100000 in
theorem c_X8_who (X : Cx)  (M : Mem) (x1 : Int32) (x2 : Int32) (x3 : Int32) (x4 : Int32) (x5 : Int32) (Q : Int32 → Mem → Prop) (h : w_X8_who  M x1 x2 x3 x4 x5 Q) : Ct yX8_who cX8_who 9 (some .int) rm_X8_who X M [.ref (ad X 0), .int x1, .int x2, .int x3, .int x4, .int x5] (Qi X Q) := by
  refine ct_of (own := RX8) (lv := [(0, .ref (ad X 0)), (1, .int x1), (2, .int x2), (3, .int x3), (4, .int x4), (5, .int x5)]) rfl (by decide) (Nat.le_of_ble_eq_true rfl) rfl ?_
  intro K C
  have hL59 : ∀  (n : Nat) (M : Mem) (x1 : Int32) (x2 : Int32) (x3 : Int32) (x4 : Int32) (x5 : Int32) (x7 : Int32) (x8 : Int32), wL_X8_who_59  Q  n M x1 x2 x3 x4 x5 x7 x8 → WX K X 9 (Qi X Q) M 59 [(0, .ref (ad X 0)), (1, .int x1), (2, .int x2), (3, .int x3), (4, .int x4), (5, .int x5), (7, .int x7), (8, .int x8)] [] := by
    intro  n
    induction n with
    | zero => intro M x1 x2 x3 x4 x5 x7 x8 h; exact absurd h id
    | succ n ih =>
      intro M x1 x2 x3 x4 x5 x7 x8 h
      replace h := wL_X8_who_59_s h
      unfold wB_X8_who_59 at h
      refine r_iload (pc := 59) C 7 dX8_who_59 rfl ?_
      refine r_bipush (pc := 61) (v := 6) C dX8_who_61 (by decide) ?_
      refine r_icmp_ge (pc := 63) (tgt := 110) C dX8_who_63 (by decide) (fun c1 => ?_) (fun c1 => ?_)
      · have h := h.1 c1
        refine r_aload_n (pc := 110) C 0 dX8_who_110 rfl ?_
        refine r_iload (pc := 111) C 6 dX8_who_111 rfl ?_
        have hM := c_X8_unfound X  M x7 _ h
        refine q_s0 (s1 := List.reverse [.int x7] ++ .ref (ad X 0) :: []) rfl ?_
        refine r_callVi (pc := 113) (k := 0) (As := [.int x7]) (st := []) C 1 (by decide) (ce0 _) rfl aw134 aw135 hM aw133 aw136 aw2 yd_X8_unfound ⟨rfl, rfl⟩ ⟨Nat.le_of_ble_eq_true rfl, Nat.le_of_ble_eq_true rfl⟩ rfl (Nat.le_of_ble_eq_true rfl) dX8_who_113 (fun r3 M2 h => ?_)
        exact r_iret (pc := 116) C dX8_who_116 h
      · have h := h.2 c1
        refine r_aload_n (pc := 66) C 0 dX8_who_66 rfl ?_
        refine r_get (pc := 67) (k := 0) (j := 5) (Cn := RX8) (T := TX8) (N := 12) C (by decide) (ce0 _) rfl iaX8 (by decide) aw30 rfl rfl dX8_who_67 ?_
        refine r_getN (pc := 70) (k := 52) (j := 8) (Cn := RX6) (T := TX6) (N := 16) C (bdT (show kd 52 = 6 from rfl)) (ceT (show kd 52 = 6 from rfl) _) rfl iaX6 (by decide) nf25 rfl rfl dX8_who_70 ?_
        refine r_iload_n (pc := 73) C 1 dX8_who_73 rfl ?_
        refine r_iload (pc := 74) C 7 dX8_who_74 rfl ?_
        obtain ⟨g4, h⟩ := h
        refine q_iast (pc := 76) (k := (52 + 3)) (n := 6) (j := (Int32.toNatClampNeg x1)) C (bdT3 (show kd 52 = 6 from rfl)) (ceT3 (show kd 52 = 6 from rfl)) g4 rfl dX8_who_76 ?_
        refine r_topM (fun M5 eM5 => ?_)
        replace h := h M5 eM5
        refine r_aload_n (pc := 77) C 0 dX8_who_77 rfl ?_
        refine r_iload_n (pc := 78) C 2 dX8_who_78 rfl ?_
        refine r_aload_n (pc := 79) C 0 dX8_who_79 rfl ?_
        refine r_get (pc := 80) (k := 0) (j := 0) (Cn := RX8) (T := TX8) (N := 12) C (by decide) (ce0 _) rfl iaX8 (by decide) aw13 rfl rfl dX8_who_80 ?_
        refine r_iload_n (pc := 83) C 3 dX8_who_83 rfl ?_
        obtain ⟨g6, h⟩ := h
        refine r_aldR (pc := 84) C g6 dX8_who_84 ?_
        refine r_iload (pc := 85) C 4 dX8_who_85 rfl ?_
        refine r_iload (pc := 87) C 5 dX8_who_87 rfl ?_
        have hM := c_X8_isSo X (3 + 2 * Int32.toNatClampNeg x3) (kdRow g6) M5 x2 x4 x5 _ h
        refine q_s0 (s1 := List.reverse [.int x2, .ref (ad X (3 + 2 * Int32.toNatClampNeg x3)), .int x4, .int x5] ++ .ref (ad X 0) :: []) rfl ?_
        refine r_callVi (pc := 89) (k := 0) (As := [.int x2, .ref (ad X (3 + 2 * Int32.toNatClampNeg x3)), .int x4, .int x5]) (st := []) C 4 (by decide) (ce0 _) rfl aw788 aw789 hM aw787 aw790 aw2 yd_X8_isSo ⟨rfl, rfl⟩ ⟨Nat.le_of_ble_eq_true rfl, Nat.le_of_ble_eq_true rfl⟩ rfl (Nat.le_of_ble_eq_true rfl) dX8_who_89 (fun r8 M7 h => ?_)
        refine r_if_eq (pc := 92) (tgt := 104) C dX8_who_92 (by decide) (fun c9 => ?_) (fun c9 => ?_)
        · have h := h.1 c9
          obtain ⟨v10, ev10⟩ : ∃ z : Int32, z = x8 + 1 := ⟨_, rfl⟩
          replace h := h v10 ev10
          refine r_iinc (pc := 104) (v := v10) (lv2 := [(8, .int v10), (0, .ref (ad X 0)), (1, .int x1), (2, .int x2), (3, .int x3), (4, .int x4), (5, .int x5), (7, .int x7)]) C 7 dX8_who_104 rfl (by rw [ev10]; rfl) (by decide) rfl ?_
          refine r_goto (pc := 107) (tgt := 59) C dX8_who_107 (by decide) ?_
          refine r_sub (lv2 := [(0, .ref (ad X 0)), (1, .int x1), (2, .int x2), (3, .int x3), (4, .int x4), (5, .int x5), (7, .int x7), (8, .int v10)]) [1, 2, 3, 4, 5, 6, 7, 0] rfl ?_
          exact ih _ _ _ _ _ _ _ _ h
        · have h := h.2 c9
          refine r_iload (pc := 95) C 6 dX8_who_95 rfl ?_
          refine r_iconst (pc := 97) (v := 1) C dX8_who_97 (by decide) ?_
          refine r_iload (pc := 98) C 7 dX8_who_98 rfl ?_
          refine r_ishl (pc := 100) C dX8_who_100 ?_
          refine r_ior (pc := 101) C dX8_who_101 ?_
          refine r_topi (fun v11 ev11 => ?_)
          replace h := h v11 ev11
          refine r_istore (pc := 102) (lv2 := [(7, .int v11), (0, .ref (ad X 0)), (1, .int x1), (2, .int x2), (3, .int x3), (4, .int x4), (5, .int x5), (8, .int x8)]) C dX8_who_102 (by decide) rfl ?_
          obtain ⟨v12, ev12⟩ : ∃ z : Int32, z = x8 + 1 := ⟨_, rfl⟩
          replace h := h v12 ev12
          refine r_iinc (pc := 104) (v := v12) (lv2 := [(8, .int v12), (7, .int v11), (0, .ref (ad X 0)), (1, .int x1), (2, .int x2), (3, .int x3), (4, .int x4), (5, .int x5)]) C 7 dX8_who_104 rfl (by rw [ev12]; rfl) (by decide) rfl ?_
          refine r_goto (pc := 107) (tgt := 59) C dX8_who_107 (by decide) ?_
          refine r_sub (lv2 := [(0, .ref (ad X 0)), (1, .int x1), (2, .int x2), (3, .int x3), (4, .int x4), (5, .int x5), (7, .int v11), (8, .int v12)]) [2, 3, 4, 5, 6, 7, 1, 0] rfl ?_
          exact ih _ _ _ _ _ _ _ _ h
  unfold w_X8_who at h
  refine r_aload_n (pc := 0) C 0 dX8_who_0 rfl ?_
  refine r_iload_n (pc := 1) C 1 dX8_who_1 rfl ?_
  refine r_iload_n (pc := 2) C 2 dX8_who_2 rfl ?_
  refine r_iload_n (pc := 3) C 3 dX8_who_3 rfl ?_
  refine r_iload (pc := 4) C 5 dX8_who_4 rfl ?_
  have hM := c_X8_isSeen X  M x1 x2 x3 x5 _ h
  refine q_s0 (s1 := List.reverse [.int x1, .int x2, .int x3, .int x5] ++ .ref (ad X 0) :: []) rfl ?_
  refine r_callVi (pc := 6) (k := 0) (As := [.int x1, .int x2, .int x3, .int x5]) (st := []) C 4 (by decide) (ce0 _) rfl aw784 aw785 hM aw783 aw786 aw2 yd_X8_isSeen ⟨rfl, rfl⟩ ⟨Nat.le_of_ble_eq_true rfl, Nat.le_of_ble_eq_true rfl⟩ rfl (Nat.le_of_ble_eq_true rfl) dX8_who_6 (fun r2 M1 h => ?_)
  refine r_if_ne (pc := 9) (tgt := 15) C dX8_who_9 (by decide) (fun c3 => ?_) (fun c3 => ?_)
  · have h := h.1 c3
    refine r_aload_n (pc := 15) C 0 dX8_who_15 rfl ?_
    refine r_get (pc := 16) (k := 0) (j := 0) (Cn := RX8) (T := TX8) (N := 12) C (by decide) (ce0 _) rfl iaX8 (by decide) aw13 rfl rfl dX8_who_16 ?_
    refine r_iload_n (pc := 19) C 3 dX8_who_19 rfl ?_
    obtain ⟨g4, h⟩ := h
    refine r_aldR (pc := 20) C g4 dX8_who_20 ?_
    refine r_iload (pc := 21) C 4 dX8_who_21 rfl ?_
    refine r_iload (pc := 23) C 5 dX8_who_23 rfl ?_
    have hM := c_X4_findingOf X (3 + 2 * Int32.toNatClampNeg x3) (kdRow g4) M1 x4 x5 _ h
    refine q_s0 (s1 := List.reverse [.int x4, .int x5] ++ .ref (ad X (3 + 2 * Int32.toNatClampNeg x3)) :: []) rfl ?_
    refine r_callVNi (pc := 25) (k := (3 + 2 * Int32.toNatClampNeg x3)) (As := [.int x4, .int x5]) (st := []) C 2 (bdR (kdRow g4)) (ceR (kdRow g4) _) rfl aw164 aw165 hM nm9 aw166 aw45 yd_X4_findingOf ⟨rfl, rfl⟩ ⟨Nat.le_of_ble_eq_true rfl, Nat.le_of_ble_eq_true rfl⟩ rfl (Nat.le_of_ble_eq_true rfl) dX8_who_25 (fun r6 M5 h => ?_)
    refine r_istore (pc := 28) (lv2 := [(6, .int r6), (0, .ref (ad X 0)), (1, .int x1), (2, .int x2), (3, .int x3), (4, .int x4), (5, .int x5)]) C dX8_who_28 (by decide) rfl ?_
    refine r_iload (pc := 30) C 0 dX8_who_30 rfl ?_
    refine r_if_eq (pc := 32) (tgt := 42) C dX8_who_32 (by decide) (fun c7 => ?_) (fun c7 => ?_)
    · have h := h.1 c7
      refine r_aload_n (pc := 42) C 1 dX8_who_42 rfl ?_
      refine r_get (pc := 43) (k := 0) (j := 5) (Cn := RX8) (T := TX8) (N := 12) C (by decide) (ce0 _) rfl iaX8 (by decide) aw30 rfl rfl dX8_who_43 ?_
      refine r_aload_n (pc := 46) C 1 dX8_who_46 rfl ?_
      refine r_get (pc := 47) (k := 0) (j := 4) (Cn := RX8) (T := TX8) (N := 12) C (by decide) (ce0 _) rfl iaX8 (by decide) aw29 rfl rfl dX8_who_47 ?_
      have hM := c_X6_become X 52 (show kd 52 = 6 from rfl) 41 (show kd 41 = 6 from rfl) M5  _ h
      refine q_s0 (s1 := List.reverse [.ref (ad X 41)] ++ .ref (ad X 52) :: []) rfl ?_
      refine r_callVNv (pc := 50) (k := 52) (As := [.ref (ad X 41)]) (st := []) C 1 (bdT (show kd 52 = 6 from rfl)) (ceT (show kd 52 = 6 from rfl) _) rfl aw309 aw310 hM nm21 aw311 aw28 yd_X6_become ⟨rfl, rfl⟩ ⟨Nat.le_of_ble_eq_true rfl, Nat.le_of_ble_eq_true rfl⟩ rfl (Nat.le_of_ble_eq_true rfl) dX8_who_50 (fun M8 h => ?_)
      refine r_iconst (pc := 53) (v := 0) C dX8_who_53 (by decide) ?_
      refine r_istore (pc := 54) (lv2 := [(7, .int 0), (6, .int r6), (0, .ref (ad X 0)), (1, .int x1), (2, .int x2), (3, .int x3), (4, .int x4), (5, .int x5)]) C dX8_who_54 (by decide) rfl ?_
      refine r_iconst (pc := 56) (v := 1) C dX8_who_56 (by decide) ?_
      refine r_istore (pc := 57) (lv2 := [(8, .int 1), (7, .int 0), (6, .int r6), (0, .ref (ad X 0)), (1, .int x1), (2, .int x2), (3, .int x3), (4, .int x4), (5, .int x5)]) C dX8_who_57 (by decide) rfl ?_
      obtain ⟨n10, h⟩ := h
      refine r_sub (lv2 := [(0, .ref (ad X 0)), (1, .int x1), (2, .int x2), (3, .int x3), (4, .int x4), (5, .int x5), (7, .int 0), (8, .int 1)]) [3, 4, 5, 6, 7, 8, 1, 0] rfl ?_
      exact hL59  _ _ _ _ _ _ _ _ _ h
    · have h := h.2 c7
      refine r_aload_n (pc := 35) C 1 dX8_who_35 rfl ?_
      refine r_iload (pc := 36) C 0 dX8_who_36 rfl ?_
      have hM := c_X8_finding X  M5 r6 _ h
      refine q_s0 (s1 := List.reverse [.int r6] ++ .ref (ad X 0) :: []) rfl ?_
      refine r_callVi (pc := 38) (k := 0) (As := [.int r6]) (st := []) C 1 (by decide) (ce0 _) rfl aw120 aw121 hM aw119 aw122 aw2 yd_X8_finding ⟨rfl, rfl⟩ ⟨Nat.le_of_ble_eq_true rfl, Nat.le_of_ble_eq_true rfl⟩ rfl (Nat.le_of_ble_eq_true rfl) dX8_who_38 (fun r12 M11 h => ?_)
      exact r_iret (pc := 41) C dX8_who_41 h
  · have h := h.2 c3
    refine r_ldc (pc := 12) C aw115 dX8_who_12 ?_
    exact r_iret (pc := 14) C dX8_who_14 h
theorem yd_X8_casesOf : yX8_casesOf.cls ≠ "java/lang/invoke/MethodHandle" ∧ yX8_casesOf.cls ≠ "java/lang/invoke/VarHandle" ∧ (parseMethodDescriptor yX8_casesOf.desc).map (fun d => d.parameters.length) = some 3 := by decide +kernel
def wB_X8_casesOf_5  (Q : Int64 → Mem → Prop)  (R5 : Mem → Int32 → Int32 → Int32 → Int64 → Int32 → Prop) (M : Mem) (x0 : Int32) (x1 : Int32) (x2 : Int32) (x3 : Int64) (x5 : Int32) : Prop :=
  ((x1 ≤ x5) → (Q x3 M)) ∧ ((¬ x1 ≤ x5) → (((x0 ≤ x5) → (∀ v3 : Int64, v3 = (x3 * (Int32.toInt64 (10 - x2))) → (∀ v4 : Int32, v4 = x5 + 1 → (R5 M x0 x1 x2 v3 v4)))) ∧ ((¬ x0 ≤ x5) → (∀ v5 : Int64, v5 = (x3 * (Int32.toInt64 x2)) → (∀ v6 : Int32, v6 = x5 + 1 → (R5 M x0 x1 x2 v5 v6))))))
def wL_X8_casesOf_5  (Q : Int64 → Mem → Prop)  : Nat → Mem → Int32 → Int32 → Int32 → Int64 → Int32 → Prop
  | 0 => fun _ _ _ _ _ _ => False
  | n + 1 => fun M x0 x1 x2 x3 x5 => wB_X8_casesOf_5  Q  (wL_X8_casesOf_5  Q  n) M x0 x1 x2 x3 x5
theorem wL_X8_casesOf_5_s  {Q : Int64 → Mem → Prop}  {n : Nat} {M : Mem} {x0 : Int32} {x1 : Int32} {x2 : Int32} {x3 : Int64} {x5 : Int32} (h : wL_X8_casesOf_5  Q  (n + 1) M x0 x1 x2 x3 x5) : wB_X8_casesOf_5  Q  (wL_X8_casesOf_5  Q  n) M x0 x1 x2 x3 x5 := h
def w_X8_casesOf  (M : Mem) (x0 : Int32) (x1 : Int32) (x2 : Int32) (Q : Int64 → Mem → Prop) : Prop :=
  ∃ n1 : Nat, wL_X8_casesOf_5  Q  n1 M x0 x1 x2 1 0
abbrev rm_X8_casesOf : Room := { frames := 3, cells := 0, slots := 0, locals := 60 }
set_option maxHeartbeats 4000000 in
set_option maxRecDepth 100000 in
theorem c_X8_casesOf (X : Cx)  (M : Mem) (x0 : Int32) (x1 : Int32) (x2 : Int32) (Q : Int64 → Mem → Prop) (h : w_X8_casesOf  M x0 x1 x2 Q) : Ct yX8_casesOf cX8_casesOf 6 (some .long) rm_X8_casesOf X M [.int x0, .int x1, .int x2] (Ql X Q) := by
  refine ct_of (own := RX8) (lv := [(0, .int x0), (1, .int x1), (2, .int x2)]) rfl (by decide) (Nat.le_of_ble_eq_true rfl) rfl ?_
  intro K C
  have hL5 : ∀  (n : Nat) (M : Mem) (x0 : Int32) (x1 : Int32) (x2 : Int32) (x3 : Int64) (x5 : Int32), wL_X8_casesOf_5  Q  n M x0 x1 x2 x3 x5 → WX K X 6 (Ql X Q) M 5 [(0, .int x0), (1, .int x1), (2, .int x2), (3, .long x3), (5, .int x5)] [] := by
    intro  n
    induction n with
    | zero => intro M x0 x1 x2 x3 x5 h; exact absurd h id
    | succ n ih =>
      intro M x0 x1 x2 x3 x5 h
      replace h := wL_X8_casesOf_5_s h
      unfold wB_X8_casesOf_5 at h
      refine r_iload (pc := 5) C 4 dX8_casesOf_5 rfl ?_
      refine r_iload_n (pc := 7) C 1 dX8_casesOf_7 rfl ?_
      refine r_icmp_ge (pc := 8) (tgt := 36) C dX8_casesOf_8 (by decide) (fun c1 => ?_) (fun c1 => ?_)
      · have h := h.1 c1
        refine r_lload_n (pc := 36) C 3 dX8_casesOf_36 rfl ?_
        exact r_lret (pc := 37) C dX8_casesOf_37 h
      · have h := h.2 c1
        refine r_lload_n (pc := 11) C 3 dX8_casesOf_11 rfl ?_
        refine r_iload (pc := 12) C 4 dX8_casesOf_12 rfl ?_
        refine r_iload_n (pc := 14) C 0 dX8_casesOf_14 rfl ?_
        refine r_icmp_ge (pc := 15) (tgt := 23) C dX8_casesOf_15 (by decide) (fun c2 => ?_) (fun c2 => ?_)
        · have h := h.1 c2
          refine r_bipush (pc := 23) (v := 10) C dX8_casesOf_23 (by decide) ?_
          refine r_iload_n (pc := 25) C 2 dX8_casesOf_25 rfl ?_
          refine r_isub (pc := 26) C dX8_casesOf_26 ?_
          refine r_i2l (pc := 27) C dX8_casesOf_27 ?_
          refine r_lmul (pc := 28) C dX8_casesOf_28 ?_
          refine r_topl (fun v3 ev3 => ?_)
          replace h := h v3 ev3
          refine r_lstore_n (pc := 29) (lv2 := [(3, .long v3), (0, .int x0), (1, .int x1), (2, .int x2), (5, .int x5)]) C dX8_casesOf_29 (by decide) rfl ?_
          obtain ⟨v4, ev4⟩ : ∃ z : Int32, z = x5 + 1 := ⟨_, rfl⟩
          replace h := h v4 ev4
          refine r_iinc (pc := 30) (v := v4) (lv2 := [(5, .int v4), (3, .long v3), (0, .int x0), (1, .int x1), (2, .int x2)]) C 4 dX8_casesOf_30 rfl (by rw [ev4]; rfl) (by decide) rfl ?_
          refine r_goto (pc := 33) (tgt := 5) C dX8_casesOf_33 (by decide) ?_
          refine r_sub (lv2 := [(0, .int x0), (1, .int x1), (2, .int x2), (3, .long v3), (5, .int v4)]) [2, 3, 4, 1, 0] rfl ?_
          exact ih _ _ _ _ _ _ h
        · have h := h.2 c2
          refine r_iload_n (pc := 18) C 2 dX8_casesOf_18 rfl ?_
          refine r_i2l (pc := 19) C dX8_casesOf_19 ?_
          refine r_goto (pc := 20) (tgt := 28) C dX8_casesOf_20 (by decide) ?_
          refine r_lmul (pc := 28) C dX8_casesOf_28 ?_
          refine r_topl (fun v5 ev5 => ?_)
          replace h := h v5 ev5
          refine r_lstore_n (pc := 29) (lv2 := [(3, .long v5), (0, .int x0), (1, .int x1), (2, .int x2), (5, .int x5)]) C dX8_casesOf_29 (by decide) rfl ?_
          obtain ⟨v6, ev6⟩ : ∃ z : Int32, z = x5 + 1 := ⟨_, rfl⟩
          replace h := h v6 ev6
          refine r_iinc (pc := 30) (v := v6) (lv2 := [(5, .int v6), (3, .long v5), (0, .int x0), (1, .int x1), (2, .int x2)]) C 4 dX8_casesOf_30 rfl (by rw [ev6]; rfl) (by decide) rfl ?_
          refine r_goto (pc := 33) (tgt := 5) C dX8_casesOf_33 (by decide) ?_
          refine r_sub (lv2 := [(0, .int x0), (1, .int x1), (2, .int x2), (3, .long v5), (5, .int v6)]) [2, 3, 4, 1, 0] rfl ?_
          exact ih _ _ _ _ _ _ h
  unfold w_X8_casesOf at h
  refine r_lconst (pc := 0) (v := 1) C dX8_casesOf_0 (by decide) ?_
  refine r_lstore_n (pc := 1) (lv2 := [(3, .long 1), (0, .int x0), (1, .int x1), (2, .int x2)]) C dX8_casesOf_1 (by decide) rfl ?_
  refine r_iconst (pc := 2) (v := 0) C dX8_casesOf_2 (by decide) ?_
  refine r_istore (pc := 3) (lv2 := [(5, .int 0), (3, .long 1), (0, .int x0), (1, .int x1), (2, .int x2)]) C dX8_casesOf_3 (by decide) rfl ?_
  obtain ⟨n1, h⟩ := h
  refine r_sub (lv2 := [(0, .int x0), (1, .int x1), (2, .int x2), (3, .long 1), (5, .int 0)]) [2, 3, 4, 1, 0] rfl ?_
  exact hL5  _ _ _ _ _ _ _ h
theorem yd_X8_commonDivisor : yX8_commonDivisor.cls ≠ "java/lang/invoke/MethodHandle" ∧ yX8_commonDivisor.cls ≠ "java/lang/invoke/VarHandle" ∧ (parseMethodDescriptor yX8_commonDivisor.desc).map (fun d => d.parameters.length) = some 2 := by decide +kernel
def wB_X8_commonDivisor_3  (Q : Int64 → Mem → Prop)  (R3 : Mem → Int64 → Int64 → Int32 → Prop) (M : Mem) (x0 : Int64) (x2 : Int64) (x4 : Int32) : Prop :=
  ((100 ≤ x4) → (Q x0 M)) ∧ ((¬ 100 ≤ x4) → ((((lg_cmp x2 0) = 0) → (Q x0 M)) ∧ ((¬ (lg_cmp x2 0) = 0) → ((¬ x2 = 0) ∧ (∀ v4 : Int64, v4 = (x0 - x0 / x2 * x2) → (∀ v5 : Int32, v5 = x4 + 1 → (R3 M x2 v4 v5)))))))
def wL_X8_commonDivisor_3  (Q : Int64 → Mem → Prop)  : Nat → Mem → Int64 → Int64 → Int32 → Prop
  | 0 => fun _ _ _ _ => False
  | n + 1 => fun M x0 x2 x4 => wB_X8_commonDivisor_3  Q  (wL_X8_commonDivisor_3  Q  n) M x0 x2 x4
theorem wL_X8_commonDivisor_3_s  {Q : Int64 → Mem → Prop}  {n : Nat} {M : Mem} {x0 : Int64} {x2 : Int64} {x4 : Int32} (h : wL_X8_commonDivisor_3  Q  (n + 1) M x0 x2 x4) : wB_X8_commonDivisor_3  Q  (wL_X8_commonDivisor_3  Q  n) M x0 x2 x4 := h
def w_X8_commonDivisor  (M : Mem) (x0 : Int64) (x2 : Int64) (Q : Int64 → Mem → Prop) : Prop :=
  ∃ n1 : Nat, wL_X8_commonDivisor_3  Q  n1 M x0 x2 0
abbrev rm_X8_commonDivisor : Room := { frames := 3, cells := 0, slots := 0, locals := 60 }
set_option maxHeartbeats 4000000 in
set_option maxRecDepth 100000 in
theorem c_X8_commonDivisor (X : Cx)  (M : Mem) (x0 : Int64) (x2 : Int64) (Q : Int64 → Mem → Prop) (h : w_X8_commonDivisor  M x0 x2 Q) : Ct yX8_commonDivisor cX8_commonDivisor 7 (some .long) rm_X8_commonDivisor X M [.long x0, .long x2] (Ql X Q) := by
  refine ct_of (own := RX8) (lv := [(0, .long x0), (2, .long x2)]) rfl (by decide) (Nat.le_of_ble_eq_true rfl) rfl ?_
  intro K C
  have hL3 : ∀  (n : Nat) (M : Mem) (x0 : Int64) (x2 : Int64) (x4 : Int32), wL_X8_commonDivisor_3  Q  n M x0 x2 x4 → WX K X 7 (Ql X Q) M 3 [(0, .long x0), (2, .long x2), (4, .int x4)] [] := by
    intro  n
    induction n with
    | zero => intro M x0 x2 x4 h; exact absurd h id
    | succ n ih =>
      intro M x0 x2 x4 h
      replace h := wL_X8_commonDivisor_3_s h
      unfold wB_X8_commonDivisor_3 at h
      refine r_iload (pc := 3) C 2 dX8_commonDivisor_3 rfl ?_
      refine r_bipush (pc := 5) (v := 100) C dX8_commonDivisor_5 (by decide) ?_
      refine r_icmp_ge (pc := 7) (tgt := 32) C dX8_commonDivisor_7 (by decide) (fun c1 => ?_) (fun c1 => ?_)
      · have h := h.1 c1
        refine r_lload_n (pc := 32) C 0 dX8_commonDivisor_32 rfl ?_
        exact r_lret (pc := 33) C dX8_commonDivisor_33 h
      · have h := h.2 c1
        refine r_lload_n (pc := 10) C 1 dX8_commonDivisor_10 rfl ?_
        refine r_lconst (pc := 11) (v := 0) C dX8_commonDivisor_11 (by decide) ?_
        refine r_lcmp (pc := 12) C dX8_commonDivisor_12 ?_
        refine r_if_eq (pc := 13) (tgt := 32) C dX8_commonDivisor_13 (by decide) (fun c2 => ?_) (fun c2 => ?_)
        · have h := h.1 c2
          refine r_lload_n (pc := 32) C 0 dX8_commonDivisor_32 rfl ?_
          exact r_lret (pc := 33) C dX8_commonDivisor_33 h
        · have h := h.2 c2
          refine r_lload_n (pc := 16) C 0 dX8_commonDivisor_16 rfl ?_
          refine r_lload_n (pc := 17) C 1 dX8_commonDivisor_17 rfl ?_
          obtain ⟨g3, h⟩ := h
          refine r_lrem (pc := 18) C dX8_commonDivisor_18 g3 ?_
          refine r_topl (fun v4 ev4 => ?_)
          replace h := h v4 ev4
          refine r_lstore (pc := 19) (lv2 := [(5, .long v4), (0, .long x0), (2, .long x2), (4, .int x4)]) C dX8_commonDivisor_19 (by decide) rfl ?_
          refine r_lload_n (pc := 21) C 2 dX8_commonDivisor_21 rfl ?_
          refine r_lstore_n (pc := 22) (lv2 := [(0, .long x2), (5, .long v4), (2, .long x2), (4, .int x4)]) C dX8_commonDivisor_22 (by decide) rfl ?_
          refine r_lload (pc := 23) C 1 dX8_commonDivisor_23 rfl ?_
          refine r_lstore_n (pc := 25) (lv2 := [(2, .long v4), (0, .long x2), (5, .long v4), (4, .int x4)]) C dX8_commonDivisor_25 (by decide) rfl ?_
          obtain ⟨v5, ev5⟩ : ∃ z : Int32, z = x4 + 1 := ⟨_, rfl⟩
          replace h := h v5 ev5
          refine r_iinc (pc := 26) (v := v5) (lv2 := [(4, .int v5), (2, .long v4), (0, .long x2), (5, .long v4)]) C 3 dX8_commonDivisor_26 rfl (by rw [ev5]; rfl) (by decide) rfl ?_
          refine r_goto (pc := 29) (tgt := 3) C dX8_commonDivisor_29 (by decide) ?_
          refine r_sub (lv2 := [(0, .long x2), (2, .long v4), (4, .int v5)]) [2, 1, 0] rfl ?_
          exact ih _ _ _ _ h
  unfold w_X8_commonDivisor at h
  refine r_iconst (pc := 0) (v := 0) C dX8_commonDivisor_0 (by decide) ?_
  refine r_istore (pc := 1) (lv2 := [(4, .int 0), (0, .long x0), (2, .long x2)]) C dX8_commonDivisor_1 (by decide) rfl ?_
  obtain ⟨n1, h⟩ := h
  refine r_sub (lv2 := [(0, .long x0), (2, .long x2), (4, .int 0)]) [1, 2, 0] rfl ?_
  exact hL3  _ _ _ _ _ h
theorem yd_X8_awake : yX8_awake.cls ≠ "java/lang/invoke/MethodHandle" ∧ yX8_awake.cls ≠ "java/lang/invoke/VarHandle" ∧ (parseMethodDescriptor yX8_awake.desc).map (fun d => d.parameters.length) = some 4 := by decide +kernel
def wJ_X8_awake_117  (Q : Int64 → Mem → Prop) (R89 : Mem → Int32 → Int32 → Int32 → Int64 → Int64 → Int32 → Prop) (M : Mem) (x1 : Int32) (x3 : Int32) (x4 : Int32) (x5 : Int64) (x7 : Int64) (x9 : Int32) (s0 : Int32) : Prop :=
  ((¬ s0 = 0) → (∀ v2 : Int32, v2 = x9 + 1 → (R89 M x1 x3 x4 x5 x7 v2))) ∧ ((s0 = 0) → (w_X2_opensAwake  M x9 (fun r4 M3 => ((r4 = 0) → (∀ v6 : Int32, v6 = x9 + 1 → (R89 M3 x1 x3 x4 x5 x7 v6))) ∧ ((¬ r4 = 0) → (w_J6_bitCount_0f7a4  M3 x9 (fun r8 M7 => w_X8_casesOf  M7 r8 ((M7 41 3) - 1) x3 (fun r10 M9 => ∀ v11 : Int64, v11 = (x5 + r10) → (∀ v12 : Int32, v12 = x9 + 1 → (R89 M9 x1 x3 x4 v11 x7 v12)))))))))
def wB_X8_awake_89  (Q : Int64 → Mem → Prop)  (R89 : Mem → Int32 → Int32 → Int32 → Int64 → Int64 → Int32 → Prop) (M : Mem) (x1 : Int32) (x3 : Int32) (x4 : Int32) (x5 : Int64) (x7 : Int64) (x9 : Int32) : Prop :=
  (((1 <<< ((M 41 3) &&& 31)) ≤ x9) → (w_X8_commonDivisor  M x7 x5 (fun r3 M2 => ((¬ (lg_cmp r3 0) = 0) → (((¬ x4 = 0) → ((¬ r3 = 0) ∧ (Q (x7 / r3) M2))) ∧ ((x4 = 0) → ((¬ r3 = 0) ∧ (Q (x5 / r3) M2))))) ∧ (((lg_cmp r3 0) = 0) → (Q 0 M2))))) ∧ ((¬ (1 <<< ((M 41 3) &&& 31)) ≤ x9) → (((((x9 >>> (x1 &&& 31)) &&& 1) = 0) → (wJ_X8_awake_117  Q R89 M x1 x3 x4 x5 x7 x9 0)) ∧ ((¬ ((x9 >>> (x1 &&& 31)) &&& 1) = 0) → (wJ_X8_awake_117  Q R89 M x1 x3 x4 x5 x7 x9 1))))
def wL_X8_awake_89  (Q : Int64 → Mem → Prop)  : Nat → Mem → Int32 → Int32 → Int32 → Int64 → Int64 → Int32 → Prop
  | 0 => fun _ _ _ _ _ _ _ => False
  | n + 1 => fun M x1 x3 x4 x5 x7 x9 => wB_X8_awake_89  Q  (wL_X8_awake_89  Q  n) M x1 x3 x4 x5 x7 x9
theorem wL_X8_awake_89_s  {Q : Int64 → Mem → Prop}  {n : Nat} {M : Mem} {x1 : Int32} {x3 : Int32} {x4 : Int32} {x5 : Int64} {x7 : Int64} {x9 : Int32} (h : wL_X8_awake_89  Q  (n + 1) M x1 x3 x4 x5 x7 x9) : wB_X8_awake_89  Q  (wL_X8_awake_89  Q  n) M x1 x3 x4 x5 x7 x9 := h
def wB_X8_awake_60  (Q : Int64 → Mem → Prop)  (R60 : Mem → Int32 → Int32 → Int32 → Int64 → Int64 → Int32 → Prop) (M : Mem) (x1 : Int32) (x3 : Int32) (x4 : Int32) (x5 : Int64) (x7 : Int64) (x9 : Int32) : Prop :=
  (((M 41 3) ≤ x9) → (∃ n2 : Nat, wL_X8_awake_89  Q  n2 M x1 x3 x4 x5 x7 0)) ∧ ((¬ (M 41 3) ≤ x9) → (∀ v3 : Int64, v3 = (x7 * 10) → (∀ v4 : Int32, v4 = x9 + 1 → (R60 M x1 x3 x4 x5 v3 v4))))
def wL_X8_awake_60  (Q : Int64 → Mem → Prop)  : Nat → Mem → Int32 → Int32 → Int32 → Int64 → Int64 → Int32 → Prop
  | 0 => fun _ _ _ _ _ _ _ => False
  | n + 1 => fun M x1 x3 x4 x5 x7 x9 => wB_X8_awake_60  Q  (wL_X8_awake_60  Q  n) M x1 x3 x4 x5 x7 x9
theorem wL_X8_awake_60_s  {Q : Int64 → Mem → Prop}  {n : Nat} {M : Mem} {x1 : Int32} {x3 : Int32} {x4 : Int32} {x5 : Int64} {x7 : Int64} {x9 : Int32} (h : wL_X8_awake_60  Q  (n + 1) M x1 x3 x4 x5 x7 x9) : wB_X8_awake_60  Q  (wL_X8_awake_60  Q  n) M x1 x3 x4 x5 x7 x9 := h
def w_X8_awake  (M : Mem) (x1 : Int32) (x2 : Int32) (x3 : Int32) (x4 : Int32) (Q : Int64 → Mem → Prop) : Prop :=
  w_X8_isPerson  M x1 (fun r2 M1 => ((r2 = 0) → (Q (-1000001) M1)) ∧ ((¬ r2 = 0) → (w_X8_isDoor  M1 x2 (fun r5 M4 => ((r5 = 0) → (Q (-1000001) M4)) ∧ ((¬ r5 = 0) → (w_X8_within  M4 x3 11 (fun r8 M7 => ((r8 = 0) → (Q (-1000001) M7)) ∧ ((¬ r8 = 0) → (w_X8_within  M7 x4 2 (fun r11 M10 => ((¬ r11 = 0) → (w_X2_hold 41 M10 x1 x2 (fun M13 => ∃ n15 : Nat, wL_X8_awake_60  Q  n15 M13 x1 x3 x4 0 1 1))) ∧ ((r11 = 0) → (Q (-1000001) M10))))))))))))
abbrev rm_X8_awake : Room := { frames := 12, cells := 0, slots := 0, locals := 240 }
set_option maxHeartbeats 4000000 in
set_option maxRecDepth 100000 in
theorem c_X8_awake (X : Cx)  (M : Mem) (x1 : Int32) (x2 : Int32) (x3 : Int32) (x4 : Int32) (Q : Int64 → Mem → Prop) (h : w_X8_awake  M x1 x2 x3 x4 Q) : Ct yX8_awake cX8_awake 11 (some .long) rm_X8_awake X M [.ref (ad X 0), .int x1, .int x2, .int x3, .int x4] (Ql X Q) := by
  refine ct_of (own := RX8) (lv := [(0, .ref (ad X 0)), (1, .int x1), (2, .int x2), (3, .int x3), (4, .int x4)]) rfl (by decide) (Nat.le_of_ble_eq_true rfl) rfl ?_
  intro K C
  have hJ117 : ∀ (R89 : Mem → Int32 → Int32 → Int32 → Int64 → Int64 → Int32 → Prop) (hR89 : ∀ (M : Mem) (x1 : Int32) (x3 : Int32) (x4 : Int32) (x5 : Int64) (x7 : Int64) (x9 : Int32), R89 M x1 x3 x4 x5 x7 x9 → WX K X 11 (Ql X Q) M 89 [(0, .ref (ad X 0)), (1, .int x1), (3, .int x3), (4, .int x4), (5, .long x5), (7, .long x7), (9, .int x9)] []) (M : Mem) (x1 : Int32) (x3 : Int32) (x4 : Int32) (x5 : Int64) (x7 : Int64) (x9 : Int32) (s0 : Int32), wJ_X8_awake_117  Q R89 M x1 x3 x4 x5 x7 x9 s0 → WX K X 11 (Ql X Q) M 117 [(0, .ref (ad X 0)), (1, .int x1), (3, .int x3), (4, .int x4), (5, .long x5), (7, .long x7), (9, .int x9)] [.int s0] := by
    intro R89 hR89 M x1 x3 x4 x5 x7 x9 s0 h
    unfold wJ_X8_awake_117 at h
    refine r_istore (pc := 117) (lv2 := [(10, .int s0), (0, .ref (ad X 0)), (1, .int x1), (3, .int x3), (4, .int x4), (5, .long x5), (7, .long x7), (9, .int x9)]) C dX8_awake_117 (by decide) rfl ?_
    refine r_iload (pc := 119) C 0 dX8_awake_119 rfl ?_
    refine r_if_ne (pc := 121) (tgt := 159) C dX8_awake_121 (by decide) (fun c1 => ?_) (fun c1 => ?_)
    · have h := h.1 c1
      obtain ⟨v2, ev2⟩ : ∃ z : Int32, z = x9 + 1 := ⟨_, rfl⟩
      replace h := h v2 ev2
      refine r_iinc (pc := 159) (v := v2) (lv2 := [(9, .int v2), (10, .int s0), (0, .ref (ad X 0)), (1, .int x1), (3, .int x3), (4, .int x4), (5, .long x5), (7, .long x7)]) C 7 dX8_awake_159 rfl (by rw [ev2]; rfl) (by decide) rfl ?_
      refine r_goto (pc := 162) (tgt := 89) C dX8_awake_162 (by decide) ?_
      refine r_sub (lv2 := [(0, .ref (ad X 0)), (1, .int x1), (3, .int x3), (4, .int x4), (5, .long x5), (7, .long x7), (9, .int v2)]) [2, 3, 4, 5, 6, 7, 0] rfl ?_
      exact hR89 _ _ _ _ _ _ _ h
    · have h := h.2 c1
      refine r_aload_n (pc := 124) C 1 dX8_awake_124 rfl ?_
      refine r_get (pc := 125) (k := 0) (j := 7) (Cn := RX8) (T := TX8) (N := 12) C (by decide) (ce0 _) rfl iaX8 (by decide) aw35 rfl rfl dX8_awake_125 ?_
      refine r_iload (pc := 128) C 7 dX8_awake_128 rfl ?_
      have hM := c_X2_opensAwake X  M x9 _ h
      refine q_s0 (s1 := List.reverse [.int x9] ++ .ref (ad X 29) :: []) rfl ?_
      refine r_callVNi (pc := 130) (k := 29) (As := [.int x9]) (st := []) C 1 (by decide) (ce29 _) rfl aw458 aw459 hM nm56 aw460 aw34 yd_X2_opensAwake ⟨rfl, rfl⟩ ⟨Nat.le_of_ble_eq_true rfl, Nat.le_of_ble_eq_true rfl⟩ rfl (Nat.le_of_ble_eq_true rfl) dX8_awake_130 (fun r4 M3 h => ?_)
      refine r_if_eq (pc := 133) (tgt := 159) C dX8_awake_133 (by decide) (fun c5 => ?_) (fun c5 => ?_)
      · have h := h.1 c5
        obtain ⟨v6, ev6⟩ : ∃ z : Int32, z = x9 + 1 := ⟨_, rfl⟩
        replace h := h v6 ev6
        refine r_iinc (pc := 159) (v := v6) (lv2 := [(9, .int v6), (10, .int s0), (0, .ref (ad X 0)), (1, .int x1), (3, .int x3), (4, .int x4), (5, .long x5), (7, .long x7)]) C 7 dX8_awake_159 rfl (by rw [ev6]; rfl) (by decide) rfl ?_
        refine r_goto (pc := 162) (tgt := 89) C dX8_awake_162 (by decide) ?_
        refine r_sub (lv2 := [(0, .ref (ad X 0)), (1, .int x1), (3, .int x3), (4, .int x4), (5, .long x5), (7, .long x7), (9, .int v6)]) [2, 3, 4, 5, 6, 7, 0] rfl ?_
        exact hR89 _ _ _ _ _ _ _ h
      · have h := h.2 c5
        refine r_lload (pc := 136) C 5 dX8_awake_136 rfl ?_
        refine r_iload (pc := 138) C 7 dX8_awake_138 rfl ?_
        have hM := c_J6_bitCount_0f7a4 X  M3 x9 _ h
        refine q_s0 (s1 := List.reverse [.int x9] ++ [.long x5]) rfl ?_
        refine r_callSi (pc := 140) (As := [.int x9]) (st := [.long x5]) C 1 hM aw754 aw755 aw756 aw452 yd_J6_bitCount_0f7a4 ⟨rfl, rfl⟩ ⟨Nat.le_of_ble_eq_true rfl, Nat.le_of_ble_eq_true rfl⟩ rfl (Nat.le_of_ble_eq_true rfl) dX8_awake_140 (fun r8 M7 h => ?_)
        refine r_aload_n (pc := 143) C 1 dX8_awake_143 rfl ?_
        refine r_get (pc := 144) (k := 0) (j := 4) (Cn := RX8) (T := TX8) (N := 12) C (by decide) (ce0 _) rfl iaX8 (by decide) aw29 rfl rfl dX8_awake_144 ?_
        refine r_getN (pc := 147) (k := 41) (j := 3) (Cn := RX6) (T := TX6) (N := 16) C (bdT (show kd 41 = 6 from rfl)) (ceT (show kd 41 = 6 from rfl) _) rfl iaX6 (by decide) nf15 rfl rfl dX8_awake_147 ?_
        refine r_iconst (pc := 150) (v := 1) C dX8_awake_150 (by decide) ?_
        refine r_isub (pc := 151) C dX8_awake_151 ?_
        refine r_iload_n (pc := 152) C 3 dX8_awake_152 rfl ?_
        have hM := c_X8_casesOf X  M7 r8 ((M7 41 3) - 1) x3 _ h
        refine q_s0 (s1 := List.reverse [.int r8, .int ((M7 41 3) - 1), .int x3] ++ [.long x5]) rfl ?_
        refine r_callSl (pc := 153) (As := [.int r8, .int ((M7 41 3) - 1), .int x3]) (st := [.long x5]) C 3 hM aw821 aw822 aw823 aw2 yd_X8_casesOf ⟨rfl, rfl⟩ ⟨Nat.le_of_ble_eq_true rfl, Nat.le_of_ble_eq_true rfl⟩ rfl (Nat.le_of_ble_eq_true rfl) dX8_awake_153 (fun r10 M9 h => ?_)
        refine r_ladd (pc := 156) C dX8_awake_156 ?_
        refine r_topl (fun v11 ev11 => ?_)
        replace h := h v11 ev11
        refine r_lstore (pc := 157) (lv2 := [(5, .long v11), (10, .int s0), (0, .ref (ad X 0)), (1, .int x1), (3, .int x3), (4, .int x4), (7, .long x7), (9, .int x9)]) C dX8_awake_157 (by decide) rfl ?_
        obtain ⟨v12, ev12⟩ : ∃ z : Int32, z = x9 + 1 := ⟨_, rfl⟩
        replace h := h v12 ev12
        refine r_iinc (pc := 159) (v := v12) (lv2 := [(9, .int v12), (5, .long v11), (10, .int s0), (0, .ref (ad X 0)), (1, .int x1), (3, .int x3), (4, .int x4), (7, .long x7)]) C 7 dX8_awake_159 rfl (by rw [ev12]; rfl) (by decide) rfl ?_
        refine r_goto (pc := 162) (tgt := 89) C dX8_awake_162 (by decide) ?_
        refine r_sub (lv2 := [(0, .ref (ad X 0)), (1, .int x1), (3, .int x3), (4, .int x4), (5, .long v11), (7, .long x7), (9, .int v12)]) [3, 4, 5, 6, 1, 7, 0] rfl ?_
        exact hR89 _ _ _ _ _ _ _ h
  have hL89 : ∀  (n : Nat) (M : Mem) (x1 : Int32) (x3 : Int32) (x4 : Int32) (x5 : Int64) (x7 : Int64) (x9 : Int32), wL_X8_awake_89  Q  n M x1 x3 x4 x5 x7 x9 → WX K X 11 (Ql X Q) M 89 [(0, .ref (ad X 0)), (1, .int x1), (3, .int x3), (4, .int x4), (5, .long x5), (7, .long x7), (9, .int x9)] [] := by
    intro  n
    induction n with
    | zero => intro M x1 x3 x4 x5 x7 x9 h; exact absurd h id
    | succ n ih =>
      intro M x1 x3 x4 x5 x7 x9 h
      replace h := wL_X8_awake_89_s h
      unfold wB_X8_awake_89 at h
      refine r_iload (pc := 89) C 6 dX8_awake_89 rfl ?_
      refine r_iconst (pc := 91) (v := 1) C dX8_awake_91 (by decide) ?_
      refine r_aload_n (pc := 92) C 0 dX8_awake_92 rfl ?_
      refine r_get (pc := 93) (k := 0) (j := 4) (Cn := RX8) (T := TX8) (N := 12) C (by decide) (ce0 _) rfl iaX8 (by decide) aw29 rfl rfl dX8_awake_93 ?_
      refine r_getN (pc := 96) (k := 41) (j := 3) (Cn := RX6) (T := TX6) (N := 16) C (bdT (show kd 41 = 6 from rfl)) (ceT (show kd 41 = 6 from rfl) _) rfl iaX6 (by decide) nf15 rfl rfl dX8_awake_96 ?_
      refine r_ishl (pc := 99) C dX8_awake_99 ?_
      refine r_icmp_ge (pc := 100) (tgt := 165) C dX8_awake_100 (by decide) (fun c1 => ?_) (fun c1 => ?_)
      · have h := h.1 c1
        refine r_lload (pc := 165) C 5 dX8_awake_165 rfl ?_
        refine r_lload (pc := 167) C 4 dX8_awake_167 rfl ?_
        have hM := c_X8_commonDivisor X  M x7 x5 _ h
        refine q_s0 (s1 := List.reverse [.long x7, .long x5] ++ []) rfl ?_
        refine r_callSl (pc := 169) (As := [.long x7, .long x5]) (st := []) C 2 hM aw824 aw825 aw826 aw2 yd_X8_commonDivisor ⟨rfl, rfl⟩ ⟨Nat.le_of_ble_eq_true rfl, Nat.le_of_ble_eq_true rfl⟩ rfl (Nat.le_of_ble_eq_true rfl) dX8_awake_169 (fun r3 M2 h => ?_)
        refine r_lstore (pc := 172) (lv2 := [(9, .long r3), (0, .ref (ad X 0)), (1, .int x1), (3, .int x3), (4, .int x4), (5, .long x5), (7, .long x7)]) C dX8_awake_172 (by decide) rfl ?_
        refine r_lload (pc := 174) C 0 dX8_awake_174 rfl ?_
        refine r_lconst (pc := 176) (v := 0) C dX8_awake_176 (by decide) ?_
        refine r_lcmp (pc := 177) C dX8_awake_177 ?_
        refine r_if_ne (pc := 178) (tgt := 185) C dX8_awake_178 (by decide) (fun c4 => ?_) (fun c4 => ?_)
        · have h := h.1 c4
          refine r_iload (pc := 185) C 4 dX8_awake_185 rfl ?_
          refine r_if_ne (pc := 187) (tgt := 195) C dX8_awake_187 (by decide) (fun c5 => ?_) (fun c5 => ?_)
          · have h := h.1 c5
            refine r_lload (pc := 195) C 6 dX8_awake_195 rfl ?_
            refine r_lload (pc := 197) C 0 dX8_awake_197 rfl ?_
            obtain ⟨g6, h⟩ := h
            refine r_ldiv (pc := 199) C dX8_awake_199 g6 ?_
            exact r_lret (pc := 200) C dX8_awake_200 h
          · have h := h.2 c5
            refine r_lload (pc := 190) C 5 dX8_awake_190 rfl ?_
            refine r_goto (pc := 192) (tgt := 197) C dX8_awake_192 (by decide) ?_
            refine r_lload (pc := 197) C 0 dX8_awake_197 rfl ?_
            obtain ⟨g7, h⟩ := h
            refine r_ldiv (pc := 199) C dX8_awake_199 g7 ?_
            exact r_lret (pc := 200) C dX8_awake_200 h
        · have h := h.2 c4
          refine r_lconst (pc := 181) (v := 0) C dX8_awake_181 (by decide) ?_
          refine r_goto (pc := 182) (tgt := 200) C dX8_awake_182 (by decide) ?_
          exact r_lret (pc := 200) C dX8_awake_200 h
      · have h := h.2 c1
        refine r_iload (pc := 103) C 6 dX8_awake_103 rfl ?_
        refine r_iload_n (pc := 105) C 1 dX8_awake_105 rfl ?_
        refine r_ishr (pc := 106) C dX8_awake_106 ?_
        refine r_iconst (pc := 107) (v := 1) C dX8_awake_107 (by decide) ?_
        refine r_iand (pc := 108) C dX8_awake_108 ?_
        refine r_if_eq (pc := 109) (tgt := 116) C dX8_awake_109 (by decide) (fun c8 => ?_) (fun c8 => ?_)
        · have h := h.1 c8
          refine r_iconst (pc := 116) (v := 0) C dX8_awake_116 (by decide) ?_
          refine r_sub (lv2 := [(0, .ref (ad X 0)), (1, .int x1), (3, .int x3), (4, .int x4), (5, .long x5), (7, .long x7), (9, .int x9)]) [0, 1, 2, 3, 4, 5, 6] rfl ?_
          exact hJ117 _ ih _ _ _ _ _ _ _ _ h
        · have h := h.2 c8
          refine r_iconst (pc := 112) (v := 1) C dX8_awake_112 (by decide) ?_
          refine r_goto (pc := 113) (tgt := 117) C dX8_awake_113 (by decide) ?_
          refine r_sub (lv2 := [(0, .ref (ad X 0)), (1, .int x1), (3, .int x3), (4, .int x4), (5, .long x5), (7, .long x7), (9, .int x9)]) [0, 1, 2, 3, 4, 5, 6] rfl ?_
          exact hJ117 _ ih _ _ _ _ _ _ _ _ h
  have hL60 : ∀  (n : Nat) (M : Mem) (x1 : Int32) (x3 : Int32) (x4 : Int32) (x5 : Int64) (x7 : Int64) (x9 : Int32), wL_X8_awake_60  Q  n M x1 x3 x4 x5 x7 x9 → WX K X 11 (Ql X Q) M 60 [(0, .ref (ad X 0)), (1, .int x1), (3, .int x3), (4, .int x4), (5, .long x5), (7, .long x7), (9, .int x9)] [] := by
    intro  n
    induction n with
    | zero => intro M x1 x3 x4 x5 x7 x9 h; exact absurd h id
    | succ n ih =>
      intro M x1 x3 x4 x5 x7 x9 h
      replace h := wL_X8_awake_60_s h
      unfold wB_X8_awake_60 at h
      refine r_iload (pc := 60) C 6 dX8_awake_60 rfl ?_
      refine r_aload_n (pc := 62) C 0 dX8_awake_62 rfl ?_
      refine r_get (pc := 63) (k := 0) (j := 4) (Cn := RX8) (T := TX8) (N := 12) C (by decide) (ce0 _) rfl iaX8 (by decide) aw29 rfl rfl dX8_awake_63 ?_
      refine r_getN (pc := 66) (k := 41) (j := 3) (Cn := RX6) (T := TX6) (N := 16) C (bdT (show kd 41 = 6 from rfl)) (ceT (show kd 41 = 6 from rfl) _) rfl iaX6 (by decide) nf15 rfl rfl dX8_awake_66 ?_
      refine r_icmp_ge (pc := 69) (tgt := 86) C dX8_awake_69 (by decide) (fun c1 => ?_) (fun c1 => ?_)
      · have h := h.1 c1
        refine r_iconst (pc := 86) (v := 0) C dX8_awake_86 (by decide) ?_
        refine r_istore (pc := 87) (lv2 := [(9, .int 0), (0, .ref (ad X 0)), (1, .int x1), (3, .int x3), (4, .int x4), (5, .long x5), (7, .long x7)]) C dX8_awake_87 (by decide) rfl ?_
        obtain ⟨n2, h⟩ := h
        refine r_sub (lv2 := [(0, .ref (ad X 0)), (1, .int x1), (3, .int x3), (4, .int x4), (5, .long x5), (7, .long x7), (9, .int 0)]) [1, 2, 3, 4, 5, 6, 0] rfl ?_
        exact hL89  _ _ _ _ _ _ _ _ h
      · have h := h.2 c1
        refine r_lload (pc := 72) C 5 dX8_awake_72 rfl ?_
        refine r_ldc2 (pc := 74) C aw820 dX8_awake_74 ?_
        refine r_lmul (pc := 77) C dX8_awake_77 ?_
        refine r_topl (fun v3 ev3 => ?_)
        replace h := h v3 ev3
        refine r_lstore (pc := 78) (lv2 := [(7, .long v3), (0, .ref (ad X 0)), (1, .int x1), (3, .int x3), (4, .int x4), (5, .long x5), (9, .int x9)]) C dX8_awake_78 (by decide) rfl ?_
        obtain ⟨v4, ev4⟩ : ∃ z : Int32, z = x9 + 1 := ⟨_, rfl⟩
        replace h := h v4 ev4
        refine r_iinc (pc := 80) (v := v4) (lv2 := [(9, .int v4), (7, .long v3), (0, .ref (ad X 0)), (1, .int x1), (3, .int x3), (4, .int x4), (5, .long x5)]) C 6 dX8_awake_80 rfl (by rw [ev4]; rfl) (by decide) rfl ?_
        refine r_goto (pc := 83) (tgt := 60) C dX8_awake_83 (by decide) ?_
        refine r_sub (lv2 := [(0, .ref (ad X 0)), (1, .int x1), (3, .int x3), (4, .int x4), (5, .long x5), (7, .long v3), (9, .int v4)]) [2, 3, 4, 5, 6, 1, 0] rfl ?_
        exact ih _ _ _ _ _ _ _ h
  unfold w_X8_awake at h
  refine r_aload_n (pc := 0) C 0 dX8_awake_0 rfl ?_
  refine r_iload_n (pc := 1) C 1 dX8_awake_1 rfl ?_
  have hM := c_X8_isPerson X  M x1 _ h
  refine q_s0 (s1 := List.reverse [.int x1] ++ .ref (ad X 0) :: []) rfl ?_
  refine r_callVi (pc := 2) (k := 0) (As := [.int x1]) (st := []) C 1 (by decide) (ce0 _) rfl aw414 aw415 hM aw413 aw416 aw2 yd_X8_isPerson ⟨rfl, rfl⟩ ⟨Nat.le_of_ble_eq_true rfl, Nat.le_of_ble_eq_true rfl⟩ rfl (Nat.le_of_ble_eq_true rfl) dX8_awake_2 (fun r2 M1 h => ?_)
  refine r_if_eq (pc := 5) (tgt := 34) C dX8_awake_5 (by decide) (fun c3 => ?_) (fun c3 => ?_)
  · have h := h.1 c3
    refine r_ldc2 (pc := 34) C aw819 dX8_awake_34 ?_
    exact r_lret (pc := 37) C dX8_awake_37 h
  · have h := h.2 c3
    refine r_aload_n (pc := 8) C 0 dX8_awake_8 rfl ?_
    refine r_iload_n (pc := 9) C 2 dX8_awake_9 rfl ?_
    have hM := c_X8_isDoor X  M1 x2 _ h
    refine q_s0 (s1 := List.reverse [.int x2] ++ .ref (ad X 0) :: []) rfl ?_
    refine r_callVi (pc := 10) (k := 0) (As := [.int x2]) (st := []) C 1 (by decide) (ce0 _) rfl aw418 aw419 hM aw417 aw420 aw2 yd_X8_isDoor ⟨rfl, rfl⟩ ⟨Nat.le_of_ble_eq_true rfl, Nat.le_of_ble_eq_true rfl⟩ rfl (Nat.le_of_ble_eq_true rfl) dX8_awake_10 (fun r5 M4 h => ?_)
    refine r_if_eq (pc := 13) (tgt := 34) C dX8_awake_13 (by decide) (fun c6 => ?_) (fun c6 => ?_)
    · have h := h.1 c6
      refine r_ldc2 (pc := 34) C aw819 dX8_awake_34 ?_
      exact r_lret (pc := 37) C dX8_awake_37 h
    · have h := h.2 c6
      refine r_iload_n (pc := 16) C 3 dX8_awake_16 rfl ?_
      refine r_bipush (pc := 17) (v := 11) C dX8_awake_17 (by decide) ?_
      have hM := c_X8_within X  M4 x3 11 _ h
      refine q_s0 (s1 := List.reverse [.int x3, .int 11] ++ []) rfl ?_
      refine r_callSi (pc := 19) (As := [.int x3, .int 11]) (st := []) C 2 hM aw116 aw117 aw118 aw2 yd_X8_within ⟨rfl, rfl⟩ ⟨Nat.le_of_ble_eq_true rfl, Nat.le_of_ble_eq_true rfl⟩ rfl (Nat.le_of_ble_eq_true rfl) dX8_awake_19 (fun r8 M7 h => ?_)
      refine r_if_eq (pc := 22) (tgt := 34) C dX8_awake_22 (by decide) (fun c9 => ?_) (fun c9 => ?_)
      · have h := h.1 c9
        refine r_ldc2 (pc := 34) C aw819 dX8_awake_34 ?_
        exact r_lret (pc := 37) C dX8_awake_37 h
      · have h := h.2 c9
        refine r_iload (pc := 25) C 4 dX8_awake_25 rfl ?_
        refine r_iconst (pc := 27) (v := 2) C dX8_awake_27 (by decide) ?_
        have hM := c_X8_within X  M7 x4 2 _ h
        refine q_s0 (s1 := List.reverse [.int x4, .int 2] ++ []) rfl ?_
        refine r_callSi (pc := 28) (As := [.int x4, .int 2]) (st := []) C 2 hM aw116 aw117 aw118 aw2 yd_X8_within ⟨rfl, rfl⟩ ⟨Nat.le_of_ble_eq_true rfl, Nat.le_of_ble_eq_true rfl⟩ rfl (Nat.le_of_ble_eq_true rfl) dX8_awake_28 (fun r11 M10 h => ?_)
        refine r_if_ne (pc := 31) (tgt := 38) C dX8_awake_31 (by decide) (fun c12 => ?_) (fun c12 => ?_)
        · have h := h.1 c12
          refine r_aload_n (pc := 38) C 0 dX8_awake_38 rfl ?_
          refine r_get (pc := 39) (k := 0) (j := 7) (Cn := RX8) (T := TX8) (N := 12) C (by decide) (ce0 _) rfl iaX8 (by decide) aw35 rfl rfl dX8_awake_39 ?_
          refine r_aload_n (pc := 42) C 0 dX8_awake_42 rfl ?_
          refine r_get (pc := 43) (k := 0) (j := 4) (Cn := RX8) (T := TX8) (N := 12) C (by decide) (ce0 _) rfl iaX8 (by decide) aw29 rfl rfl dX8_awake_43 ?_
          refine r_iload_n (pc := 46) C 1 dX8_awake_46 rfl ?_
          refine r_iload_n (pc := 47) C 2 dX8_awake_47 rfl ?_
          have hM := c_X2_hold X 41 (show kd 41 = 6 from rfl) M10 x1 x2 _ h
          refine q_s0 (s1 := List.reverse [.ref (ad X 41), .int x1, .int x2] ++ .ref (ad X 29) :: []) rfl ?_
          refine r_callVNv (pc := 48) (k := 29) (As := [.ref (ad X 41), .int x1, .int x2]) (st := []) C 3 (by decide) (ce29 _) rfl aw428 aw429 hM nm27 aw430 aw34 yd_X2_hold ⟨rfl, rfl⟩ ⟨Nat.le_of_ble_eq_true rfl, Nat.le_of_ble_eq_true rfl⟩ rfl (Nat.le_of_ble_eq_true rfl) dX8_awake_48 (fun M13 h => ?_)
          refine r_lconst (pc := 51) (v := 0) C dX8_awake_51 (by decide) ?_
          refine r_lstore (pc := 52) (lv2 := [(5, .long 0), (0, .ref (ad X 0)), (1, .int x1), (2, .int x2), (3, .int x3), (4, .int x4)]) C dX8_awake_52 (by decide) rfl ?_
          refine r_lconst (pc := 54) (v := 1) C dX8_awake_54 (by decide) ?_
          refine r_lstore (pc := 55) (lv2 := [(7, .long 1), (5, .long 0), (0, .ref (ad X 0)), (1, .int x1), (2, .int x2), (3, .int x3), (4, .int x4)]) C dX8_awake_55 (by decide) rfl ?_
          refine r_iconst (pc := 57) (v := 1) C dX8_awake_57 (by decide) ?_
          refine r_istore (pc := 58) (lv2 := [(9, .int 1), (7, .long 1), (5, .long 0), (0, .ref (ad X 0)), (1, .int x1), (2, .int x2), (3, .int x3), (4, .int x4)]) C dX8_awake_58 (by decide) rfl ?_
          obtain ⟨n15, h⟩ := h
          refine r_sub (lv2 := [(0, .ref (ad X 0)), (1, .int x1), (3, .int x3), (4, .int x4), (5, .long 0), (7, .long 1), (9, .int 1)]) [3, 4, 6, 7, 2, 1, 0] rfl ?_
          exact hL60  _ _ _ _ _ _ _ _ h
        · have h := h.2 c12
          refine r_ldc2 (pc := 34) C aw819 dX8_awake_34 ?_
          exact r_lret (pc := 37) C dX8_awake_37 h
theorem yd_X8_drawn : yX8_drawn.cls ≠ "java/lang/invoke/MethodHandle" ∧ yX8_drawn.cls ≠ "java/lang/invoke/VarHandle" ∧ (parseMethodDescriptor yX8_drawn.desc).map (fun d => d.parameters.length) = some 3 := by decide +kernel
def wJ_X8_drawn_152  (Q : Int32 → Mem → Prop) (R63 : Mem → Int32 → Int32 → Int32 → Int64 → Int32 → Prop) (M : Mem) (x1 : Int32) (x3 : Int32) (x4 : Int32) (x5 : Int64) (x7 : Int32) : Prop :=
  ((¬ (lg_cmp (x5 - x5 / 4 * 4) 0) = 0) → (∀ v2 : Int32, v2 = x7 + 1 → (R63 M x1 x3 x4 x5 v2))) ∧ (((lg_cmp (x5 - x5 / 4 * 4) 0) = 0) → (∀ v3 : Int32, v3 = ((M 52 5) + 1) → (∀ M4 : Mem, M4 = ms M 52 5 v3 → (∀ v5 : Int32, v5 = x7 + 1 → (R63 M4 x1 x3 x4 x5 v5)))))
def wB_X8_drawn_63  (Q : Int32 → Mem → Prop)  (R63 : Mem → Int32 → Int32 → Int32 → Int64 → Int32 → Prop) (M : Mem) (x1 : Int32) (x3 : Int32) (x4 : Int32) (x5 : Int64) (x7 : Int32) : Prop :=
  ((x1 ≤ x7) → (((¬ x3 = 0) → (w_X6_roomsAdded 52 M  (fun r4 M3 => Q r4 M3))) ∧ ((x3 = 0) → (Q x4 M)))) ∧ ((¬ x1 ≤ x7) → (∀ v5 : Int64, v5 = ((x5 * 16807) - (x5 * 16807) / 2147483647 * 2147483647) → ((¬ (Int32.toInt64 (M 41 3)) = 0) ∧ (∀ v7 : Int32, v7 = (Int64.toInt32 (v5 - v5 / (Int32.toInt64 (M 41 3)) * (Int32.toInt64 (M 41 3)))) → ((¬ (Int32.toInt64 (M 41 2)) = 0) ∧ (∀ v9 : Int32, v9 = (Int64.toInt32 (v5 - v5 / (Int32.toInt64 (M 41 2)) * (Int32.toInt64 (M 41 2)))) → (w_X6_isAtDoor 52 M v7 v9 (fun r11 M10 => ((r11 = 0) → (wJ_X8_drawn_152  Q R63 M10 x1 x3 x4 v5 x7)) ∧ ((¬ r11 = 0) → (w_X8_opens 52 M10 v7 v9 (fun r14 M13 => ((r14 = 0) → (wJ_X8_drawn_152  Q R63 M13 x1 x3 x4 v5 x7)) ∧ ((¬ r14 = 0) → (w_X6_pass 52 M13 v7 v9 (fun M16 => ∀ v18 : Int32, v18 = x4 + 1 → (wJ_X8_drawn_152  Q R63 M16 x1 x3 v18 v5 x7)))))))))))))))
def wL_X8_drawn_63  (Q : Int32 → Mem → Prop)  : Nat → Mem → Int32 → Int32 → Int32 → Int64 → Int32 → Prop
  | 0 => fun _ _ _ _ _ _ => False
  | n + 1 => fun M x1 x3 x4 x5 x7 => wB_X8_drawn_63  Q  (wL_X8_drawn_63  Q  n) M x1 x3 x4 x5 x7
theorem wL_X8_drawn_63_s  {Q : Int32 → Mem → Prop}  {n : Nat} {M : Mem} {x1 : Int32} {x3 : Int32} {x4 : Int32} {x5 : Int64} {x7 : Int32} (h : wL_X8_drawn_63  Q  (n + 1) M x1 x3 x4 x5 x7) : wB_X8_drawn_63  Q  (wL_X8_drawn_63  Q  n) M x1 x3 x4 x5 x7 := h
def w_X8_drawn  (M : Mem) (x1 : Int32) (x2 : Int32) (x3 : Int32) (Q : Int32 → Mem → Prop) : Prop :=
  w_X8_isTown  M  (fun r2 M1 => ((¬ r2 = 0) → (w_X8_within  M1 x1 61 (fun r5 M4 => ((r5 = 0) → (Q (-1000001) M4)) ∧ ((¬ r5 = 0) → (((x2 < 1) → (Q (-1000001) M4)) ∧ ((¬ x2 < 1) → (((999999 < x2) → (Q (-1000001) M4)) ∧ ((¬ 999999 < x2) → (w_X8_within  M4 x3 2 (fun r10 M9 => ((¬ r10 = 0) → (w_X6_become 52 41 M9  (fun M12 => ∀ v14 : Int64, v14 = (Int32.toInt64 x2) → (∃ n15 : Nat, wL_X8_drawn_63  Q  n15 M12 x1 x3 0 v14 0)))) ∧ ((r10 = 0) → (Q (-1000001) M9)))))))))))) ∧ ((r2 = 0) → (Q (-1000002) M1)))
abbrev rm_X8_drawn : Room := { frames := 15, cells := 0, slots := 0, locals := 300 }
set_option maxHeartbeats 4000000 in
set_option maxRecDepth 100000 in
theorem c_X8_drawn (X : Cx)  (M : Mem) (x1 : Int32) (x2 : Int32) (x3 : Int32) (Q : Int32 → Mem → Prop) (h : w_X8_drawn  M x1 x2 x3 Q) : Ct yX8_drawn cX8_drawn 10 (some .int) rm_X8_drawn X M [.ref (ad X 0), .int x1, .int x2, .int x3] (Qi X Q) := by
  refine ct_of (own := RX8) (lv := [(0, .ref (ad X 0)), (1, .int x1), (2, .int x2), (3, .int x3)]) rfl (by decide) (Nat.le_of_ble_eq_true rfl) rfl ?_
  intro K C
  have hJ152 : ∀ (R63 : Mem → Int32 → Int32 → Int32 → Int64 → Int32 → Prop) (hR63 : ∀ (M : Mem) (x1 : Int32) (x3 : Int32) (x4 : Int32) (x5 : Int64) (x7 : Int32), R63 M x1 x3 x4 x5 x7 → WX K X 10 (Qi X Q) M 63 [(0, .ref (ad X 0)), (1, .int x1), (3, .int x3), (4, .int x4), (5, .long x5), (7, .int x7)] []) (M : Mem) (x1 : Int32) (x3 : Int32) (x4 : Int32) (x5 : Int64) (x7 : Int32), wJ_X8_drawn_152  Q R63 M x1 x3 x4 x5 x7 → WX K X 10 (Qi X Q) M 152 [(0, .ref (ad X 0)), (1, .int x1), (3, .int x3), (4, .int x4), (5, .long x5), (7, .int x7)] [] := by
    intro R63 hR63 M x1 x3 x4 x5 x7 h
    unfold wJ_X8_drawn_152 at h
    refine r_lload (pc := 152) C 4 dX8_drawn_152 rfl ?_
    refine r_ldc2 (pc := 154) C aw840 dX8_drawn_154 ?_
    refine r_lrem (pc := 157) C dX8_drawn_157 (by decide) ?_
    refine r_lconst (pc := 158) (v := 0) C dX8_drawn_158 (by decide) ?_
    refine r_lcmp (pc := 159) C dX8_drawn_159 ?_
    refine r_if_ne (pc := 160) (tgt := 176) C dX8_drawn_160 (by decide) (fun c1 => ?_) (fun c1 => ?_)
    · have h := h.1 c1
      obtain ⟨v2, ev2⟩ : ∃ z : Int32, z = x7 + 1 := ⟨_, rfl⟩
      replace h := h v2 ev2
      refine r_iinc (pc := 176) (v := v2) (lv2 := [(7, .int v2), (0, .ref (ad X 0)), (1, .int x1), (3, .int x3), (4, .int x4), (5, .long x5)]) C 5 dX8_drawn_176 rfl (by rw [ev2]; rfl) (by decide) rfl ?_
      refine r_goto (pc := 179) (tgt := 63) C dX8_drawn_179 (by decide) ?_
      refine r_sub (lv2 := [(0, .ref (ad X 0)), (1, .int x1), (3, .int x3), (4, .int x4), (5, .long x5), (7, .int v2)]) [1, 2, 3, 4, 5, 0] rfl ?_
      exact hR63 _ _ _ _ _ _ h
    · have h := h.2 c1
      refine r_aload_n (pc := 163) C 0 dX8_drawn_163 rfl ?_
      refine r_get (pc := 164) (k := 0) (j := 5) (Cn := RX8) (T := TX8) (N := 12) C (by decide) (ce0 _) rfl iaX8 (by decide) aw30 rfl rfl dX8_drawn_164 ?_
      refine r_dup (pc := 167) C dX8_drawn_167 rfl ?_
      refine r_getN (pc := 168) (k := 52) (j := 5) (Cn := RX6) (T := TX6) (N := 16) C (bdT (show kd 52 = 6 from rfl)) (ceT (show kd 52 = 6 from rfl) _) rfl iaX6 (by decide) nf19 rfl rfl dX8_drawn_168 ?_
      refine r_iconst (pc := 171) (v := 1) C dX8_drawn_171 (by decide) ?_
      refine r_iadd (pc := 172) C dX8_drawn_172 ?_
      refine r_topi (fun v3 ev3 => ?_)
      replace h := h v3 ev3
      refine r_putN (pc := 173) (k := 52) (j := 5) (Cn := RX6) (T := TX6) (N := 16) C (bdT (show kd 52 = 6 from rfl)) (ceT (show kd 52 = 6 from rfl) _) rfl iaX6 (by decide) (ceT (show kd 52 = 6 from rfl) _) tyX6_ok nmX6 nf19 rfl rfl (tyX6_ok 5 (by decide)) (Nat.le_of_ble_eq_true rfl) dX8_drawn_173 ?_
      refine r_topM (fun M4 eM4 => ?_)
      replace h := h M4 eM4
      obtain ⟨v5, ev5⟩ : ∃ z : Int32, z = x7 + 1 := ⟨_, rfl⟩
      replace h := h v5 ev5
      refine r_iinc (pc := 176) (v := v5) (lv2 := [(7, .int v5), (0, .ref (ad X 0)), (1, .int x1), (3, .int x3), (4, .int x4), (5, .long x5)]) C 5 dX8_drawn_176 rfl (by rw [ev5]; rfl) (by decide) rfl ?_
      refine r_goto (pc := 179) (tgt := 63) C dX8_drawn_179 (by decide) ?_
      refine r_sub (lv2 := [(0, .ref (ad X 0)), (1, .int x1), (3, .int x3), (4, .int x4), (5, .long x5), (7, .int v5)]) [1, 2, 3, 4, 5, 0] rfl ?_
      exact hR63 _ _ _ _ _ _ h
  have hL63 : ∀  (n : Nat) (M : Mem) (x1 : Int32) (x3 : Int32) (x4 : Int32) (x5 : Int64) (x7 : Int32), wL_X8_drawn_63  Q  n M x1 x3 x4 x5 x7 → WX K X 10 (Qi X Q) M 63 [(0, .ref (ad X 0)), (1, .int x1), (3, .int x3), (4, .int x4), (5, .long x5), (7, .int x7)] [] := by
    intro  n
    induction n with
    | zero => intro M x1 x3 x4 x5 x7 h; exact absurd h id
    | succ n ih =>
      intro M x1 x3 x4 x5 x7 h
      replace h := wL_X8_drawn_63_s h
      unfold wB_X8_drawn_63 at h
      refine r_iload (pc := 63) C 5 dX8_drawn_63 rfl ?_
      refine r_iload_n (pc := 65) C 1 dX8_drawn_65 rfl ?_
      refine r_icmp_ge (pc := 66) (tgt := 182) C dX8_drawn_66 (by decide) (fun c1 => ?_) (fun c1 => ?_)
      · have h := h.1 c1
        refine r_iload_n (pc := 182) C 2 dX8_drawn_182 rfl ?_
        refine r_if_ne (pc := 183) (tgt := 191) C dX8_drawn_183 (by decide) (fun c2 => ?_) (fun c2 => ?_)
        · have h := h.1 c2
          refine r_aload_n (pc := 191) C 0 dX8_drawn_191 rfl ?_
          refine r_get (pc := 192) (k := 0) (j := 5) (Cn := RX8) (T := TX8) (N := 12) C (by decide) (ce0 _) rfl iaX8 (by decide) aw30 rfl rfl dX8_drawn_192 ?_
          have hM := c_X6_roomsAdded X 52 (show kd 52 = 6 from rfl) M  _ h
          refine q_s0 (s1 := List.reverse [] ++ .ref (ad X 52) :: []) rfl ?_
          refine r_callVNi (pc := 195) (k := 52) (As := []) (st := []) C 0 (bdT (show kd 52 = 6 from rfl)) (ceT (show kd 52 = 6 from rfl) _) rfl aw841 aw842 hM nm57 aw843 aw28 yd_X6_roomsAdded ⟨rfl, rfl⟩ ⟨Nat.le_of_ble_eq_true rfl, Nat.le_of_ble_eq_true rfl⟩ rfl (Nat.le_of_ble_eq_true rfl) dX8_drawn_195 (fun r4 M3 h => ?_)
          exact r_iret (pc := 198) C dX8_drawn_198 h
        · have h := h.2 c2
          refine r_iload (pc := 186) C 3 dX8_drawn_186 rfl ?_
          refine r_goto (pc := 188) (tgt := 198) C dX8_drawn_188 (by decide) ?_
          exact r_iret (pc := 198) C dX8_drawn_198 h
      · have h := h.2 c1
        refine r_lload (pc := 69) C 4 dX8_drawn_69 rfl ?_
        refine r_ldc2 (pc := 71) C aw838 dX8_drawn_71 ?_
        refine r_lmul (pc := 74) C dX8_drawn_74 ?_
        refine r_ldc2 (pc := 75) C aw839 dX8_drawn_75 ?_
        refine r_lrem (pc := 78) C dX8_drawn_78 (by decide) ?_
        refine r_topl (fun v5 ev5 => ?_)
        replace h := h v5 ev5
        refine r_lstore (pc := 79) (lv2 := [(5, .long v5), (0, .ref (ad X 0)), (1, .int x1), (3, .int x3), (4, .int x4), (7, .int x7)]) C dX8_drawn_79 (by decide) rfl ?_
        refine r_lload (pc := 81) C 0 dX8_drawn_81 rfl ?_
        refine r_aload_n (pc := 83) C 1 dX8_drawn_83 rfl ?_
        refine r_get (pc := 84) (k := 0) (j := 4) (Cn := RX8) (T := TX8) (N := 12) C (by decide) (ce0 _) rfl iaX8 (by decide) aw29 rfl rfl dX8_drawn_84 ?_
        refine r_getN (pc := 87) (k := 41) (j := 3) (Cn := RX6) (T := TX6) (N := 16) C (bdT (show kd 41 = 6 from rfl)) (ceT (show kd 41 = 6 from rfl) _) rfl iaX6 (by decide) nf15 rfl rfl dX8_drawn_87 ?_
        refine r_i2l (pc := 90) C dX8_drawn_90 ?_
        obtain ⟨g6, h⟩ := h
        refine r_lrem (pc := 91) C dX8_drawn_91 g6 ?_
        refine r_l2i (pc := 92) C dX8_drawn_92 ?_
        refine r_topi (fun v7 ev7 => ?_)
        replace h := h v7 ev7
        refine r_istore (pc := 93) (lv2 := [(8, .int v7), (5, .long v5), (0, .ref (ad X 0)), (1, .int x1), (3, .int x3), (4, .int x4), (7, .int x7)]) C dX8_drawn_93 (by decide) rfl ?_
        refine r_lload (pc := 95) C 1 dX8_drawn_95 rfl ?_
        refine r_aload_n (pc := 97) C 2 dX8_drawn_97 rfl ?_
        refine r_get (pc := 98) (k := 0) (j := 4) (Cn := RX8) (T := TX8) (N := 12) C (by decide) (ce0 _) rfl iaX8 (by decide) aw29 rfl rfl dX8_drawn_98 ?_
        refine r_getN (pc := 101) (k := 41) (j := 2) (Cn := RX6) (T := TX6) (N := 16) C (bdT (show kd 41 = 6 from rfl)) (ceT (show kd 41 = 6 from rfl) _) rfl iaX6 (by decide) nf11 rfl rfl dX8_drawn_101 ?_
        refine r_i2l (pc := 104) C dX8_drawn_104 ?_
        obtain ⟨g8, h⟩ := h
        refine r_lrem (pc := 105) C dX8_drawn_105 g8 ?_
        refine r_l2i (pc := 106) C dX8_drawn_106 ?_
        refine r_topi (fun v9 ev9 => ?_)
        replace h := h v9 ev9
        refine r_istore (pc := 107) (lv2 := [(9, .int v9), (8, .int v7), (5, .long v5), (0, .ref (ad X 0)), (1, .int x1), (3, .int x3), (4, .int x4), (7, .int x7)]) C dX8_drawn_107 (by decide) rfl ?_
        refine r_aload_n (pc := 109) C 3 dX8_drawn_109 rfl ?_
        refine r_get (pc := 110) (k := 0) (j := 5) (Cn := RX8) (T := TX8) (N := 12) C (by decide) (ce0 _) rfl iaX8 (by decide) aw30 rfl rfl dX8_drawn_110 ?_
        refine r_iload (pc := 113) C 1 dX8_drawn_113 rfl ?_
        refine r_iload (pc := 115) C 0 dX8_drawn_115 rfl ?_
        have hM := c_X6_isAtDoor X 52 (show kd 52 = 6 from rfl) M v7 v9 _ h
        refine q_s0 (s1 := List.reverse [.int v7, .int v9] ++ .ref (ad X 52) :: []) rfl ?_
        refine r_callVNi (pc := 117) (k := 52) (As := [.int v7, .int v9]) (st := []) C 2 (bdT (show kd 52 = 6 from rfl)) (ceT (show kd 52 = 6 from rfl) _) rfl aw421 aw422 hM nm26 aw423 aw28 yd_X6_isAtDoor ⟨rfl, rfl⟩ ⟨Nat.le_of_ble_eq_true rfl, Nat.le_of_ble_eq_true rfl⟩ rfl (Nat.le_of_ble_eq_true rfl) dX8_drawn_117 (fun r11 M10 h => ?_)
        refine r_if_eq (pc := 120) (tgt := 152) C dX8_drawn_120 (by decide) (fun c12 => ?_) (fun c12 => ?_)
        · have h := h.1 c12
          refine r_sub (lv2 := [(0, .ref (ad X 0)), (1, .int x1), (3, .int x3), (4, .int x4), (5, .long v5), (7, .int x7)]) [3, 4, 5, 6, 2, 7] rfl ?_
          exact hJ152 _ ih _ _ _ _ _ _ h
        · have h := h.2 c12
          refine r_aload_n (pc := 123) C 3 dX8_drawn_123 rfl ?_
          refine r_aload_n (pc := 124) C 3 dX8_drawn_124 rfl ?_
          refine r_get (pc := 125) (k := 0) (j := 5) (Cn := RX8) (T := TX8) (N := 12) C (by decide) (ce0 _) rfl iaX8 (by decide) aw30 rfl rfl dX8_drawn_125 ?_
          refine r_iload (pc := 128) C 1 dX8_drawn_128 rfl ?_
          refine r_iload (pc := 130) C 0 dX8_drawn_130 rfl ?_
          have hM := c_X8_opens X 52 (show kd 52 = 6 from rfl) M10 v7 v9 _ h
          refine q_s0 (s1 := List.reverse [.ref (ad X 52), .int v7, .int v9] ++ .ref (ad X 0) :: []) rfl ?_
          refine r_callVi (pc := 132) (k := 0) (As := [.ref (ad X 52), .int v7, .int v9]) (st := []) C 3 (by decide) (ce0 _) rfl aw425 aw426 hM aw424 aw427 aw2 yd_X8_opens ⟨rfl, rfl⟩ ⟨Nat.le_of_ble_eq_true rfl, Nat.le_of_ble_eq_true rfl⟩ rfl (Nat.le_of_ble_eq_true rfl) dX8_drawn_132 (fun r14 M13 h => ?_)
          refine r_if_eq (pc := 135) (tgt := 152) C dX8_drawn_135 (by decide) (fun c15 => ?_) (fun c15 => ?_)
          · have h := h.1 c15
            refine r_sub (lv2 := [(0, .ref (ad X 0)), (1, .int x1), (3, .int x3), (4, .int x4), (5, .long v5), (7, .int x7)]) [3, 4, 5, 6, 2, 7] rfl ?_
            exact hJ152 _ ih _ _ _ _ _ _ h
          · have h := h.2 c15
            refine r_aload_n (pc := 138) C 3 dX8_drawn_138 rfl ?_
            refine r_get (pc := 139) (k := 0) (j := 5) (Cn := RX8) (T := TX8) (N := 12) C (by decide) (ce0 _) rfl iaX8 (by decide) aw30 rfl rfl dX8_drawn_139 ?_
            refine r_iload (pc := 142) C 1 dX8_drawn_142 rfl ?_
            refine r_iload (pc := 144) C 0 dX8_drawn_144 rfl ?_
            have hM := c_X6_pass X 52 (show kd 52 = 6 from rfl) M13 v7 v9 _ h
            refine q_s0 (s1 := List.reverse [.int v7, .int v9] ++ .ref (ad X 52) :: []) rfl ?_
            refine r_callVNv (pc := 146) (k := 52) (As := [.int v7, .int v9]) (st := []) C 2 (bdT (show kd 52 = 6 from rfl)) (ceT (show kd 52 = 6 from rfl) _) rfl aw470 aw471 hM nm33 aw472 aw28 yd_X6_pass ⟨rfl, rfl⟩ ⟨Nat.le_of_ble_eq_true rfl, Nat.le_of_ble_eq_true rfl⟩ rfl (Nat.le_of_ble_eq_true rfl) dX8_drawn_146 (fun M16 h => ?_)
            obtain ⟨v18, ev18⟩ : ∃ z : Int32, z = x4 + 1 := ⟨_, rfl⟩
            replace h := h v18 ev18
            refine r_iinc (pc := 149) (v := v18) (lv2 := [(4, .int v18), (9, .int v9), (8, .int v7), (5, .long v5), (0, .ref (ad X 0)), (1, .int x1), (3, .int x3), (7, .int x7)]) C 6 dX8_drawn_149 rfl (by rw [ev18]; rfl) (by decide) rfl ?_
            refine r_sub (lv2 := [(0, .ref (ad X 0)), (1, .int x1), (3, .int x3), (4, .int v18), (5, .long v5), (7, .int x7)]) [4, 5, 6, 0, 3, 7] rfl ?_
            exact hJ152 _ ih _ _ _ _ _ _ h
  unfold w_X8_drawn at h
  refine r_aload_n (pc := 0) C 0 dX8_drawn_0 rfl ?_
  have hM := c_X8_isTown X  M  _ h
  refine q_s0 (s1 := List.reverse [] ++ .ref (ad X 0) :: []) rfl ?_
  refine r_callVi (pc := 1) (k := 0) (As := []) (st := []) C 0 (by decide) (ce0 _) rfl aw545 aw546 hM aw544 aw547 aw2 yd_X8_isTown ⟨rfl, rfl⟩ ⟨Nat.le_of_ble_eq_true rfl, Nat.le_of_ble_eq_true rfl⟩ rfl (Nat.le_of_ble_eq_true rfl) dX8_drawn_1 (fun r2 M1 h => ?_)
  refine r_if_ne (pc := 4) (tgt := 10) C dX8_drawn_4 (by decide) (fun c3 => ?_) (fun c3 => ?_)
  · have h := h.1 c3
    refine r_iload_n (pc := 10) C 1 dX8_drawn_10 rfl ?_
    refine r_bipush (pc := 11) (v := 61) C dX8_drawn_11 (by decide) ?_
    have hM := c_X8_within X  M1 x1 61 _ h
    refine q_s0 (s1 := List.reverse [.int x1, .int 61] ++ []) rfl ?_
    refine r_callSi (pc := 13) (As := [.int x1, .int 61]) (st := []) C 2 hM aw116 aw117 aw118 aw2 yd_X8_within ⟨rfl, rfl⟩ ⟨Nat.le_of_ble_eq_true rfl, Nat.le_of_ble_eq_true rfl⟩ rfl (Nat.le_of_ble_eq_true rfl) dX8_drawn_13 (fun r5 M4 h => ?_)
    refine r_if_eq (pc := 16) (tgt := 39) C dX8_drawn_16 (by decide) (fun c6 => ?_) (fun c6 => ?_)
    · have h := h.1 c6
      refine r_ldc (pc := 39) C aw115 dX8_drawn_39 ?_
      exact r_iret (pc := 41) C dX8_drawn_41 h
    · have h := h.2 c6
      refine r_iload_n (pc := 19) C 2 dX8_drawn_19 rfl ?_
      refine r_iconst (pc := 20) (v := 1) C dX8_drawn_20 (by decide) ?_
      refine r_icmp_lt (pc := 21) (tgt := 39) C dX8_drawn_21 (by decide) (fun c7 => ?_) (fun c7 => ?_)
      · have h := h.1 c7
        refine r_ldc (pc := 39) C aw115 dX8_drawn_39 ?_
        exact r_iret (pc := 41) C dX8_drawn_41 h
      · have h := h.2 c7
        refine r_iload_n (pc := 24) C 2 dX8_drawn_24 rfl ?_
        refine r_ldcw (pc := 25) C aw837 dX8_drawn_25 ?_
        refine r_icmp_gt (pc := 28) (tgt := 39) C dX8_drawn_28 (by decide) (fun c8 => ?_) (fun c8 => ?_)
        · have h := h.1 c8
          refine r_ldc (pc := 39) C aw115 dX8_drawn_39 ?_
          exact r_iret (pc := 41) C dX8_drawn_41 h
        · have h := h.2 c8
          refine r_iload_n (pc := 31) C 3 dX8_drawn_31 rfl ?_
          refine r_iconst (pc := 32) (v := 2) C dX8_drawn_32 (by decide) ?_
          have hM := c_X8_within X  M4 x3 2 _ h
          refine q_s0 (s1 := List.reverse [.int x3, .int 2] ++ []) rfl ?_
          refine r_callSi (pc := 33) (As := [.int x3, .int 2]) (st := []) C 2 hM aw116 aw117 aw118 aw2 yd_X8_within ⟨rfl, rfl⟩ ⟨Nat.le_of_ble_eq_true rfl, Nat.le_of_ble_eq_true rfl⟩ rfl (Nat.le_of_ble_eq_true rfl) dX8_drawn_33 (fun r10 M9 h => ?_)
          refine r_if_ne (pc := 36) (tgt := 42) C dX8_drawn_36 (by decide) (fun c11 => ?_) (fun c11 => ?_)
          · have h := h.1 c11
            refine r_aload_n (pc := 42) C 0 dX8_drawn_42 rfl ?_
            refine r_get (pc := 43) (k := 0) (j := 5) (Cn := RX8) (T := TX8) (N := 12) C (by decide) (ce0 _) rfl iaX8 (by decide) aw30 rfl rfl dX8_drawn_43 ?_
            refine r_aload_n (pc := 46) C 0 dX8_drawn_46 rfl ?_
            refine r_get (pc := 47) (k := 0) (j := 4) (Cn := RX8) (T := TX8) (N := 12) C (by decide) (ce0 _) rfl iaX8 (by decide) aw29 rfl rfl dX8_drawn_47 ?_
            have hM := c_X6_become X 52 (show kd 52 = 6 from rfl) 41 (show kd 41 = 6 from rfl) M9  _ h
            refine q_s0 (s1 := List.reverse [.ref (ad X 41)] ++ .ref (ad X 52) :: []) rfl ?_
            refine r_callVNv (pc := 50) (k := 52) (As := [.ref (ad X 41)]) (st := []) C 1 (bdT (show kd 52 = 6 from rfl)) (ceT (show kd 52 = 6 from rfl) _) rfl aw309 aw310 hM nm21 aw311 aw28 yd_X6_become ⟨rfl, rfl⟩ ⟨Nat.le_of_ble_eq_true rfl, Nat.le_of_ble_eq_true rfl⟩ rfl (Nat.le_of_ble_eq_true rfl) dX8_drawn_50 (fun M12 h => ?_)
            refine r_iconst (pc := 53) (v := 0) C dX8_drawn_53 (by decide) ?_
            refine r_istore (pc := 54) (lv2 := [(4, .int 0), (0, .ref (ad X 0)), (1, .int x1), (2, .int x2), (3, .int x3)]) C dX8_drawn_54 (by decide) rfl ?_
            refine r_iload_n (pc := 56) C 3 dX8_drawn_56 rfl ?_
            refine r_i2l (pc := 57) C dX8_drawn_57 ?_
            refine r_topl (fun v14 ev14 => ?_)
            replace h := h v14 ev14
            refine r_lstore (pc := 58) (lv2 := [(5, .long v14), (4, .int 0), (0, .ref (ad X 0)), (1, .int x1), (2, .int x2), (3, .int x3)]) C dX8_drawn_58 (by decide) rfl ?_
            refine r_iconst (pc := 60) (v := 0) C dX8_drawn_60 (by decide) ?_
            refine r_istore (pc := 61) (lv2 := [(7, .int 0), (5, .long v14), (4, .int 0), (0, .ref (ad X 0)), (1, .int x1), (2, .int x2), (3, .int x3)]) C dX8_drawn_61 (by decide) rfl ?_
            obtain ⟨n15, h⟩ := h
            refine r_sub (lv2 := [(0, .ref (ad X 0)), (1, .int x1), (3, .int x3), (4, .int 0), (5, .long v14), (7, .int 0)]) [3, 4, 6, 2, 1, 0] rfl ?_
            exact hL63  _ _ _ _ _ _ _ h
          · have h := h.2 c11
            refine r_ldc (pc := 39) C aw115 dX8_drawn_39 ?_
            exact r_iret (pc := 41) C dX8_drawn_41 h
  · have h := h.2 c3
    refine r_ldc (pc := 7) C aw392 dX8_drawn_7 ?_
    exact r_iret (pc := 9) C dX8_drawn_9 h
theorem yd_X8_image : yX8_image.cls ≠ "java/lang/invoke/MethodHandle" ∧ yX8_image.cls ≠ "java/lang/invoke/VarHandle" ∧ (parseMethodDescriptor yX8_image.desc).map (fun d => d.parameters.length) = some 1 := by decide +kernel
def w_X8_image  (M : Mem) (x1 : Int32) (Q : Int32 → Mem → Prop) : Prop :=
  w_X8_within  M x1 2 (fun r2 M1 => ((¬ r2 = 0) → (w_X8_isTown  M1  (fun r5 M4 => ((¬ r5 = 0) → (vp_in x1 2 ∧ (w_X6_become (63 + 11 * Int32.toNatClampNeg x1) 41 M4  (fun M8 => Q 1 M8)))) ∧ ((r5 = 0) → (Q (-1000002) M4))))) ∧ ((r2 = 0) → (Q (-1000001) M1)))
abbrev rm_X8_image : Room := { frames := 6, cells := 0, slots := 0, locals := 120 }
set_option maxHeartbeats 4000000 in
set_option maxRecDepth 100000 in
theorem c_X8_image (X : Cx)  (M : Mem) (x1 : Int32) (Q : Int32 → Mem → Prop) (h : w_X8_image  M x1 Q) : Ct yX8_image cX8_image 2 (some .int) rm_X8_image X M [.ref (ad X 0), .int x1] (Qi X Q) := by
  refine ct_of (own := RX8) (lv := [(0, .ref (ad X 0)), (1, .int x1)]) rfl (by decide) (Nat.le_of_ble_eq_true rfl) rfl ?_
  intro K C
  unfold w_X8_image at h
  refine r_iload_n (pc := 0) C 1 dX8_image_0 rfl ?_
  refine r_iconst (pc := 1) (v := 2) C dX8_image_1 (by decide) ?_
  have hM := c_X8_within X  M x1 2 _ h
  refine q_s0 (s1 := List.reverse [.int x1, .int 2] ++ []) rfl ?_
  refine r_callSi (pc := 2) (As := [.int x1, .int 2]) (st := []) C 2 hM aw116 aw117 aw118 aw2 yd_X8_within ⟨rfl, rfl⟩ ⟨Nat.le_of_ble_eq_true rfl, Nat.le_of_ble_eq_true rfl⟩ rfl (Nat.le_of_ble_eq_true rfl) dX8_image_2 (fun r2 M1 h => ?_)
  refine r_if_ne (pc := 5) (tgt := 11) C dX8_image_5 (by decide) (fun c3 => ?_) (fun c3 => ?_)
  · have h := h.1 c3
    refine r_aload_n (pc := 11) C 0 dX8_image_11 rfl ?_
    have hM := c_X8_isTown X  M1  _ h
    refine q_s0 (s1 := List.reverse [] ++ .ref (ad X 0) :: []) rfl ?_
    refine r_callVi (pc := 12) (k := 0) (As := []) (st := []) C 0 (by decide) (ce0 _) rfl aw545 aw546 hM aw544 aw547 aw2 yd_X8_isTown ⟨rfl, rfl⟩ ⟨Nat.le_of_ble_eq_true rfl, Nat.le_of_ble_eq_true rfl⟩ rfl (Nat.le_of_ble_eq_true rfl) dX8_image_12 (fun r5 M4 h => ?_)
    refine r_if_ne (pc := 15) (tgt := 21) C dX8_image_15 (by decide) (fun c6 => ?_) (fun c6 => ?_)
    · have h := h.1 c6
      refine r_aload_n (pc := 21) C 0 dX8_image_21 rfl ?_
      refine r_get (pc := 22) (k := 0) (j := 6) (Cn := RX8) (T := TX8) (N := 12) C (by decide) (ce0 _) rfl iaX8 (by decide) aw31 rfl rfl dX8_image_22 ?_
      refine r_iload_n (pc := 25) C 1 dX8_image_25 rfl ?_
      obtain ⟨g7, h⟩ := h
      refine r_aldT (pc := 26) C g7 dX8_image_26 ?_
      refine r_aload_n (pc := 27) C 0 dX8_image_27 rfl ?_
      refine r_get (pc := 28) (k := 0) (j := 4) (Cn := RX8) (T := TX8) (N := 12) C (by decide) (ce0 _) rfl iaX8 (by decide) aw29 rfl rfl dX8_image_28 ?_
      have hM := c_X6_become X (63 + 11 * Int32.toNatClampNeg x1) (kdImg g7) 41 (show kd 41 = 6 from rfl) M4  _ h
      refine q_s0 (s1 := List.reverse [.ref (ad X 41)] ++ .ref (ad X (63 + 11 * Int32.toNatClampNeg x1)) :: []) rfl ?_
      refine r_callVNv (pc := 31) (k := (63 + 11 * Int32.toNatClampNeg x1)) (As := [.ref (ad X 41)]) (st := []) C 1 (bdT (kdImg g7)) (ceT (kdImg g7) _) rfl aw309 aw310 hM nm21 aw311 aw28 yd_X6_become ⟨rfl, rfl⟩ ⟨Nat.le_of_ble_eq_true rfl, Nat.le_of_ble_eq_true rfl⟩ rfl (Nat.le_of_ble_eq_true rfl) dX8_image_31 (fun M8 h => ?_)
      refine r_iconst (pc := 34) (v := 1) C dX8_image_34 (by decide) ?_
      exact r_iret (pc := 35) C dX8_image_35 h
    · have h := h.2 c6
      refine r_ldc (pc := 18) C aw392 dX8_image_18 ?_
      exact r_iret (pc := 20) C dX8_image_20 h
  · have h := h.2 c3
    refine r_ldc (pc := 8) C aw115 dX8_image_8 ?_
    exact r_iret (pc := 10) C dX8_image_10 h
theorem yd_X8_restore : yX8_restore.cls ≠ "java/lang/invoke/MethodHandle" ∧ yX8_restore.cls ≠ "java/lang/invoke/VarHandle" ∧ (parseMethodDescriptor yX8_restore.desc).map (fun d => d.parameters.length) = some 1 := by decide +kernel
def w_X8_restore  (M : Mem) (x1 : Int32) (Q : Int32 → Mem → Prop) : Prop :=
  w_X8_within  M x1 2 (fun r2 M1 => ((¬ r2 = 0) → (vp_in x1 2 ∧ (((¬ (M1 (63 + 11 * Int32.toNatClampNeg x1) 3) = 0) → (vp_in x1 2 ∧ (w_X6_become 41 (63 + 11 * Int32.toNatClampNeg x1) M1  (fun M7 => w_X0_forget  M7  (fun M9 => Q 1 M9))))) ∧ (((M1 (63 + 11 * Int32.toNatClampNeg x1) 3) = 0) → (Q (-1000002) M1))))) ∧ ((r2 = 0) → (Q (-1000001) M1)))
abbrev rm_X8_restore : Room := { frames := 6, cells := 0, slots := 0, locals := 120 }
set_option maxHeartbeats 4000000 in
set_option maxRecDepth 100000 in
theorem c_X8_restore (X : Cx)  (M : Mem) (x1 : Int32) (Q : Int32 → Mem → Prop) (h : w_X8_restore  M x1 Q) : Ct yX8_restore cX8_restore 2 (some .int) rm_X8_restore X M [.ref (ad X 0), .int x1] (Qi X Q) := by
  refine ct_of (own := RX8) (lv := [(0, .ref (ad X 0)), (1, .int x1)]) rfl (by decide) (Nat.le_of_ble_eq_true rfl) rfl ?_
  intro K C
  unfold w_X8_restore at h
  refine r_iload_n (pc := 0) C 1 dX8_restore_0 rfl ?_
  refine r_iconst (pc := 1) (v := 2) C dX8_restore_1 (by decide) ?_
  have hM := c_X8_within X  M x1 2 _ h
  refine q_s0 (s1 := List.reverse [.int x1, .int 2] ++ []) rfl ?_
  refine r_callSi (pc := 2) (As := [.int x1, .int 2]) (st := []) C 2 hM aw116 aw117 aw118 aw2 yd_X8_within ⟨rfl, rfl⟩ ⟨Nat.le_of_ble_eq_true rfl, Nat.le_of_ble_eq_true rfl⟩ rfl (Nat.le_of_ble_eq_true rfl) dX8_restore_2 (fun r2 M1 h => ?_)
  refine r_if_ne (pc := 5) (tgt := 11) C dX8_restore_5 (by decide) (fun c3 => ?_) (fun c3 => ?_)
  · have h := h.1 c3
    refine r_aload_n (pc := 11) C 0 dX8_restore_11 rfl ?_
    refine r_get (pc := 12) (k := 0) (j := 6) (Cn := RX8) (T := TX8) (N := 12) C (by decide) (ce0 _) rfl iaX8 (by decide) aw31 rfl rfl dX8_restore_12 ?_
    refine r_iload_n (pc := 15) C 1 dX8_restore_15 rfl ?_
    obtain ⟨g4, h⟩ := h
    refine r_aldT (pc := 16) C g4 dX8_restore_16 ?_
    refine r_getN (pc := 17) (k := (63 + 11 * Int32.toNatClampNeg x1)) (j := 3) (Cn := RX6) (T := TX6) (N := 16) C (bdT (kdImg g4)) (ceT (kdImg g4) _) rfl iaX6 (by decide) nf15 rfl rfl dX8_restore_17 ?_
    refine r_if_ne (pc := 20) (tgt := 26) C dX8_restore_20 (by decide) (fun c5 => ?_) (fun c5 => ?_)
    · have h := h.1 c5
      refine r_aload_n (pc := 26) C 0 dX8_restore_26 rfl ?_
      refine r_get (pc := 27) (k := 0) (j := 4) (Cn := RX8) (T := TX8) (N := 12) C (by decide) (ce0 _) rfl iaX8 (by decide) aw29 rfl rfl dX8_restore_27 ?_
      refine r_aload_n (pc := 30) C 0 dX8_restore_30 rfl ?_
      refine r_get (pc := 31) (k := 0) (j := 6) (Cn := RX8) (T := TX8) (N := 12) C (by decide) (ce0 _) rfl iaX8 (by decide) aw31 rfl rfl dX8_restore_31 ?_
      refine r_iload_n (pc := 34) C 1 dX8_restore_34 rfl ?_
      obtain ⟨g6, h⟩ := h
      refine r_aldT (pc := 35) C g6 dX8_restore_35 ?_
      have hM := c_X6_become X 41 (show kd 41 = 6 from rfl) (63 + 11 * Int32.toNatClampNeg x1) (kdImg g6) M1  _ h
      refine q_s0 (s1 := List.reverse [.ref (ad X (63 + 11 * Int32.toNatClampNeg x1))] ++ .ref (ad X 41) :: []) rfl ?_
      refine r_callVNv (pc := 36) (k := 41) (As := [.ref (ad X (63 + 11 * Int32.toNatClampNeg x1))]) (st := []) C 1 (bdT (show kd 41 = 6 from rfl)) (ceT (show kd 41 = 6 from rfl) _) rfl aw309 aw310 hM nm21 aw311 aw28 yd_X6_become ⟨rfl, rfl⟩ ⟨Nat.le_of_ble_eq_true rfl, Nat.le_of_ble_eq_true rfl⟩ rfl (Nat.le_of_ble_eq_true rfl) dX8_restore_36 (fun M7 h => ?_)
      refine r_aload_n (pc := 39) C 0 dX8_restore_39 rfl ?_
      refine r_get (pc := 40) (k := 0) (j := 2) (Cn := RX8) (T := TX8) (N := 12) C (by decide) (ce0 _) rfl iaX8 (by decide) aw21 rfl rfl dX8_restore_40 ?_
      have hM := c_X0_forget X  M7  _ h
      refine q_s0 (s1 := List.reverse [] ++ .ref (ad X 21) :: []) rfl ?_
      refine r_callVNv (pc := 43) (k := 21) (As := []) (st := []) C 0 (by decide) (ce21 _) rfl aw313 aw314 hM nm22 aw315 aw20 yd_X0_forget ⟨rfl, rfl⟩ ⟨Nat.le_of_ble_eq_true rfl, Nat.le_of_ble_eq_true rfl⟩ rfl (Nat.le_of_ble_eq_true rfl) dX8_restore_43 (fun M9 h => ?_)
      refine r_iconst (pc := 46) (v := 1) C dX8_restore_46 (by decide) ?_
      exact r_iret (pc := 47) C dX8_restore_47 h
    · have h := h.2 c5
      refine r_ldc (pc := 23) C aw392 dX8_restore_23 ?_
      exact r_iret (pc := 25) C dX8_restore_25 h
  · have h := h.2 c3
    refine r_ldc (pc := 8) C aw115 dX8_restore_8 ?_
    exact r_iret (pc := 10) C dX8_restore_10 h
theorem yd_X8_kind : yX8_kind.cls ≠ "java/lang/invoke/MethodHandle" ∧ yX8_kind.cls ≠ "java/lang/invoke/VarHandle" ∧ (parseMethodDescriptor yX8_kind.desc).map (fun d => d.parameters.length) = some 1 := by decide +kernel
def w_X8_kind  (M : Mem) (x1 : Int32) (Q : Int32 → Mem → Prop) : Prop :=
  w_X8_isPerson  M x1 (fun r2 M1 => ((r2 = 0) → (Q (-1000001) M1)) ∧ ((¬ r2 = 0) → (vp_in x1 6 ∧ (Q (M1 (41 + 3) (Int32.toNatClampNeg x1)) M1))))
abbrev rm_X8_kind : Room := { frames := 9, cells := 0, slots := 0, locals := 180 }
set_option maxHeartbeats 4000000 in
set_option maxRecDepth 100000 in
theorem c_X8_kind (X : Cx)  (M : Mem) (x1 : Int32) (Q : Int32 → Mem → Prop) (h : w_X8_kind  M x1 Q) : Ct yX8_kind cX8_kind 2 (some .int) rm_X8_kind X M [.ref (ad X 0), .int x1] (Qi X Q) := by
  refine ct_of (own := RX8) (lv := [(0, .ref (ad X 0)), (1, .int x1)]) rfl (by decide) (Nat.le_of_ble_eq_true rfl) rfl ?_
  intro K C
  unfold w_X8_kind at h
  refine r_aload_n (pc := 0) C 0 dX8_kind_0 rfl ?_
  refine r_iload_n (pc := 1) C 1 dX8_kind_1 rfl ?_
  have hM := c_X8_isPerson X  M x1 _ h
  refine q_s0 (s1 := List.reverse [.int x1] ++ .ref (ad X 0) :: []) rfl ?_
  refine r_callVi (pc := 2) (k := 0) (As := [.int x1]) (st := []) C 1 (by decide) (ce0 _) rfl aw414 aw415 hM aw413 aw416 aw2 yd_X8_isPerson ⟨rfl, rfl⟩ ⟨Nat.le_of_ble_eq_true rfl, Nat.le_of_ble_eq_true rfl⟩ rfl (Nat.le_of_ble_eq_true rfl) dX8_kind_2 (fun r2 M1 h => ?_)
  refine r_if_eq (pc := 5) (tgt := 20) C dX8_kind_5 (by decide) (fun c3 => ?_) (fun c3 => ?_)
  · have h := h.1 c3
    refine r_ldc (pc := 20) C aw115 dX8_kind_20 ?_
    exact r_iret (pc := 22) C dX8_kind_22 h
  · have h := h.2 c3
    refine r_aload_n (pc := 8) C 0 dX8_kind_8 rfl ?_
    refine r_get (pc := 9) (k := 0) (j := 4) (Cn := RX8) (T := TX8) (N := 12) C (by decide) (ce0 _) rfl iaX8 (by decide) aw29 rfl rfl dX8_kind_9 ?_
    refine r_getN (pc := 12) (k := 41) (j := 8) (Cn := RX6) (T := TX6) (N := 16) C (bdT (show kd 41 = 6 from rfl)) (ceT (show kd 41 = 6 from rfl) _) rfl iaX6 (by decide) nf25 rfl rfl dX8_kind_12 ?_
    refine r_iload_n (pc := 15) C 1 dX8_kind_15 rfl ?_
    obtain ⟨g4, h⟩ := h
    refine q_iald (pc := 16) (k := (41 + 3)) (n := 6) (j := (Int32.toNatClampNeg x1)) C (bdT3 (show kd 41 = 6 from rfl)) (ceT3 (show kd 41 = 6 from rfl) _) g4 rfl dX8_kind_16 ?_
    refine r_goto (pc := 17) (tgt := 22) C dX8_kind_17 (by decide) ?_
    exact r_iret (pc := 22) C dX8_kind_22 h
theorem yd_X8_isOfKind : yX8_isOfKind.cls ≠ "java/lang/invoke/MethodHandle" ∧ yX8_isOfKind.cls ≠ "java/lang/invoke/VarHandle" ∧ (parseMethodDescriptor yX8_isOfKind.desc).map (fun d => d.parameters.length) = some 2 := by decide +kernel
def wJ_X8_isOfKind_36  (Q : Int32 → Mem → Prop)  (M : Mem) (x1 : Int32) (x2 : Int32) : Prop :=
  ((¬ x2 = x1) → (Q 0 M)) ∧ ((x2 = x1) → (Q 1 M))
def wB_X8_isOfKind_4  (Q : Int32 → Mem → Prop)  (R4 : Mem → Int32 → Int32 → Int32 → Prop) (M : Mem) (x1 : Int32) (x2 : Int32) (x3 : Int32) : Prop :=
  ((6 ≤ x3) → (wJ_X8_isOfKind_36  Q  M x1 x2)) ∧ ((¬ 6 ≤ x3) → (((x2 = x1) → (wJ_X8_isOfKind_36  Q  M x1 x2)) ∧ ((¬ x2 = x1) → (w_X8_within  M x2 6 (fun r4 M3 => ((r4 = 0) → (wJ_X8_isOfKind_36  Q  M3 x1 x2)) ∧ ((¬ r4 = 0) → (vp_in x2 6 ∧ (∀ v7 : Int32, v7 = (tb 0 (Int32.toNatClampNeg x2)) → (∀ v8 : Int32, v8 = x3 + 1 → (R4 M3 x1 v7 v8))))))))))
def wL_X8_isOfKind_4  (Q : Int32 → Mem → Prop)  : Nat → Mem → Int32 → Int32 → Int32 → Prop
  | 0 => fun _ _ _ _ => False
  | n + 1 => fun M x1 x2 x3 => wB_X8_isOfKind_4  Q  (wL_X8_isOfKind_4  Q  n) M x1 x2 x3
theorem wL_X8_isOfKind_4_s  {Q : Int32 → Mem → Prop}  {n : Nat} {M : Mem} {x1 : Int32} {x2 : Int32} {x3 : Int32} (h : wL_X8_isOfKind_4  Q  (n + 1) M x1 x2 x3) : wB_X8_isOfKind_4  Q  (wL_X8_isOfKind_4  Q  n) M x1 x2 x3 := h
def w_X8_isOfKind  (M : Mem) (x0 : Int32) (x1 : Int32) (Q : Int32 → Mem → Prop) : Prop :=
  ∃ n1 : Nat, wL_X8_isOfKind_4  Q  n1 M x1 x0 0
abbrev rm_X8_isOfKind : Room := { frames := 6, cells := 0, slots := 0, locals := 120 }
set_option maxHeartbeats 4000000 in
set_option maxRecDepth 100000 in
theorem c_X8_isOfKind (X : Cx)  (M : Mem) (x0 : Int32) (x1 : Int32) (Q : Int32 → Mem → Prop) (h : w_X8_isOfKind  M x0 x1 Q) : Ct yX8_isOfKind cX8_isOfKind 4 (some .boolean) rm_X8_isOfKind X M [.int x0, .int x1] (Qi X Q) := by
  refine ct_of (own := RX8) (lv := [(0, .int x0), (1, .int x1)]) rfl (by decide) (Nat.le_of_ble_eq_true rfl) rfl ?_
  intro K C
  have hJ36 : ∀  (M : Mem) (x1 : Int32) (x2 : Int32), wJ_X8_isOfKind_36  Q  M x1 x2 → WX K X 4 (Qi X Q) M 36 [(1, .int x1), (2, .int x2)] [] := by
    intro  M x1 x2 h
    unfold wJ_X8_isOfKind_36 at h
    refine r_iload_n (pc := 36) C 1 dX8_isOfKind_36 rfl ?_
    refine r_iload_n (pc := 37) C 0 dX8_isOfKind_37 rfl ?_
    refine r_icmp_ne (pc := 38) (tgt := 45) C dX8_isOfKind_38 (by decide) (fun c1 => ?_) (fun c1 => ?_)
    · have h := h.1 c1
      refine r_iconst (pc := 45) (v := 0) C dX8_isOfKind_45 (by decide) ?_
      exact r_zret (pc := 46) C dX8_isOfKind_46 (Or.inl rfl) h
    · have h := h.2 c1
      refine r_iconst (pc := 41) (v := 1) C dX8_isOfKind_41 (by decide) ?_
      refine r_goto (pc := 42) (tgt := 46) C dX8_isOfKind_42 (by decide) ?_
      exact r_zret (pc := 46) C dX8_isOfKind_46 (Or.inr rfl) h
  have hL4 : ∀  (n : Nat) (M : Mem) (x1 : Int32) (x2 : Int32) (x3 : Int32), wL_X8_isOfKind_4  Q  n M x1 x2 x3 → WX K X 4 (Qi X Q) M 4 [(1, .int x1), (2, .int x2), (3, .int x3)] [] := by
    intro  n
    induction n with
    | zero => intro M x1 x2 x3 h; exact absurd h id
    | succ n ih =>
      intro M x1 x2 x3 h
      replace h := wL_X8_isOfKind_4_s h
      unfold wB_X8_isOfKind_4 at h
      refine r_iload_n (pc := 4) C 2 dX8_isOfKind_4 rfl ?_
      refine r_bipush (pc := 5) (v := 6) C dX8_isOfKind_5 (by decide) ?_
      refine r_icmp_ge (pc := 7) (tgt := 36) C dX8_isOfKind_7 (by decide) (fun c1 => ?_) (fun c1 => ?_)
      · have h := h.1 c1
        refine r_sub (lv2 := [(1, .int x1), (2, .int x2)]) [0, 1] rfl ?_
        exact hJ36  _ _ _ h
      · have h := h.2 c1
        refine r_iload_n (pc := 10) C 1 dX8_isOfKind_10 rfl ?_
        refine r_iload_n (pc := 11) C 0 dX8_isOfKind_11 rfl ?_
        refine r_icmp_eq (pc := 12) (tgt := 36) C dX8_isOfKind_12 (by decide) (fun c2 => ?_) (fun c2 => ?_)
        · have h := h.1 c2
          refine r_sub (lv2 := [(1, .int x1), (2, .int x2)]) [0, 1] rfl ?_
          exact hJ36  _ _ _ h
        · have h := h.2 c2
          refine r_iload_n (pc := 15) C 1 dX8_isOfKind_15 rfl ?_
          refine r_bipush (pc := 16) (v := 6) C dX8_isOfKind_16 (by decide) ?_
          have hM := c_X8_within X  M x2 6 _ h
          refine q_s0 (s1 := List.reverse [.int x2, .int 6] ++ []) rfl ?_
          refine r_callSi (pc := 18) (As := [.int x2, .int 6]) (st := []) C 2 hM aw116 aw117 aw118 aw2 yd_X8_within ⟨rfl, rfl⟩ ⟨Nat.le_of_ble_eq_true rfl, Nat.le_of_ble_eq_true rfl⟩ rfl (Nat.le_of_ble_eq_true rfl) dX8_isOfKind_18 (fun r4 M3 h => ?_)
          refine r_if_eq (pc := 21) (tgt := 36) C dX8_isOfKind_21 (by decide) (fun c5 => ?_) (fun c5 => ?_)
          · have h := h.1 c5
            refine r_sub (lv2 := [(1, .int x1), (2, .int x2)]) [0, 1] rfl ?_
            exact hJ36  _ _ _ h
          · have h := h.2 c5
            refine r_gets (pc := 24) C 0 (by decide) aw884 dX8_isOfKind_24 ?_
            refine r_iload_n (pc := 27) C 1 dX8_isOfKind_27 rfl ?_
            obtain ⟨g6, h⟩ := h
            refine r_tald (pc := 28) C 0 (by decide) g6 dX8_isOfKind_28 ?_
            refine r_topi (fun v7 ev7 => ?_)
            replace h := h v7 ev7
            refine r_istore_n (pc := 29) (lv2 := [(2, .int v7), (1, .int x1), (3, .int x3)]) C dX8_isOfKind_29 (by decide) rfl ?_
            obtain ⟨v8, ev8⟩ : ∃ z : Int32, z = x3 + 1 := ⟨_, rfl⟩
            replace h := h v8 ev8
            refine r_iinc (pc := 30) (v := v8) (lv2 := [(3, .int v8), (2, .int v7), (1, .int x1)]) C 2 dX8_isOfKind_30 rfl (by rw [ev8]; rfl) (by decide) rfl ?_
            refine r_goto (pc := 33) (tgt := 4) C dX8_isOfKind_33 (by decide) ?_
            refine r_sub (lv2 := [(1, .int x1), (2, .int v7), (3, .int v8)]) [2, 1, 0] rfl ?_
            exact ih _ _ _ _ h
  unfold w_X8_isOfKind at h
  refine r_iload_n (pc := 0) C 0 dX8_isOfKind_0 rfl ?_
  refine r_istore_n (pc := 1) (lv2 := [(2, .int x0), (0, .int x0), (1, .int x1)]) C dX8_isOfKind_1 (by decide) rfl ?_
  refine r_iconst (pc := 2) (v := 0) C dX8_isOfKind_2 (by decide) ?_
  refine r_istore_n (pc := 3) (lv2 := [(3, .int 0), (2, .int x0), (0, .int x0), (1, .int x1)]) C dX8_isOfKind_3 (by decide) rfl ?_
  obtain ⟨n1, h⟩ := h
  refine r_sub (lv2 := [(1, .int x1), (2, .int x0), (3, .int 0)]) [3, 1, 0] rfl ?_
  exact hL4  _ _ _ _ _ h
theorem yd_X8_as : yX8_as.cls ≠ "java/lang/invoke/MethodHandle" ∧ yX8_as.cls ≠ "java/lang/invoke/VarHandle" ∧ (parseMethodDescriptor yX8_as.desc).map (fun d => d.parameters.length) = some 2 := by decide +kernel
def w_X8_as  (M : Mem) (x1 : Int32) (x2 : Int32) (Q : Int32 → Mem → Prop) : Prop :=
  w_X8_isPerson  M x1 (fun r2 M1 => ((r2 = 0) → (Q (-1000001) M1)) ∧ ((¬ r2 = 0) → (w_X8_within  M1 x2 6 (fun r5 M4 => ((¬ r5 = 0) → (vp_in x1 6 ∧ (w_X8_isOfKind  M4 (M4 (41 + 3) (Int32.toNatClampNeg x1)) x2 (fun r9 M8 => ((r9 = 0) → (w_X8_finding  M8 3 (fun r12 M11 => Q r12 M11))) ∧ ((¬ r9 = 0) → (w_X8_unfound  M8 x1 (fun r14 M13 => Q r14 M13))))))) ∧ ((r5 = 0) → (Q (-1000001) M4))))))
abbrev rm_X8_as : Room := { frames := 9, cells := 0, slots := 0, locals := 180 }
set_option maxHeartbeats 4000000 in
set_option maxRecDepth 100000 in
theorem c_X8_as (X : Cx)  (M : Mem) (x1 : Int32) (x2 : Int32) (Q : Int32 → Mem → Prop) (h : w_X8_as  M x1 x2 Q) : Ct yX8_as cX8_as 3 (some .int) rm_X8_as X M [.ref (ad X 0), .int x1, .int x2] (Qi X Q) := by
  refine ct_of (own := RX8) (lv := [(0, .ref (ad X 0)), (1, .int x1), (2, .int x2)]) rfl (by decide) (Nat.le_of_ble_eq_true rfl) rfl ?_
  intro K C
  unfold w_X8_as at h
  refine r_aload_n (pc := 0) C 0 dX8_as_0 rfl ?_
  refine r_iload_n (pc := 1) C 1 dX8_as_1 rfl ?_
  have hM := c_X8_isPerson X  M x1 _ h
  refine q_s0 (s1 := List.reverse [.int x1] ++ .ref (ad X 0) :: []) rfl ?_
  refine r_callVi (pc := 2) (k := 0) (As := [.int x1]) (st := []) C 1 (by decide) (ce0 _) rfl aw414 aw415 hM aw413 aw416 aw2 yd_X8_isPerson ⟨rfl, rfl⟩ ⟨Nat.le_of_ble_eq_true rfl, Nat.le_of_ble_eq_true rfl⟩ rfl (Nat.le_of_ble_eq_true rfl) dX8_as_2 (fun r2 M1 h => ?_)
  refine r_if_eq (pc := 5) (tgt := 17) C dX8_as_5 (by decide) (fun c3 => ?_) (fun c3 => ?_)
  · have h := h.1 c3
    refine r_ldc (pc := 17) C aw115 dX8_as_17 ?_
    exact r_iret (pc := 19) C dX8_as_19 h
  · have h := h.2 c3
    refine r_iload_n (pc := 8) C 2 dX8_as_8 rfl ?_
    refine r_bipush (pc := 9) (v := 6) C dX8_as_9 (by decide) ?_
    have hM := c_X8_within X  M1 x2 6 _ h
    refine q_s0 (s1 := List.reverse [.int x2, .int 6] ++ []) rfl ?_
    refine r_callSi (pc := 11) (As := [.int x2, .int 6]) (st := []) C 2 hM aw116 aw117 aw118 aw2 yd_X8_within ⟨rfl, rfl⟩ ⟨Nat.le_of_ble_eq_true rfl, Nat.le_of_ble_eq_true rfl⟩ rfl (Nat.le_of_ble_eq_true rfl) dX8_as_11 (fun r5 M4 h => ?_)
    refine r_if_ne (pc := 14) (tgt := 20) C dX8_as_14 (by decide) (fun c6 => ?_) (fun c6 => ?_)
    · have h := h.1 c6
      refine r_aload_n (pc := 20) C 0 dX8_as_20 rfl ?_
      refine r_get (pc := 21) (k := 0) (j := 4) (Cn := RX8) (T := TX8) (N := 12) C (by decide) (ce0 _) rfl iaX8 (by decide) aw29 rfl rfl dX8_as_21 ?_
      refine r_getN (pc := 24) (k := 41) (j := 8) (Cn := RX6) (T := TX6) (N := 16) C (bdT (show kd 41 = 6 from rfl)) (ceT (show kd 41 = 6 from rfl) _) rfl iaX6 (by decide) nf25 rfl rfl dX8_as_24 ?_
      refine r_iload_n (pc := 27) C 1 dX8_as_27 rfl ?_
      obtain ⟨g7, h⟩ := h
      refine q_iald (pc := 28) (k := (41 + 3)) (n := 6) (j := (Int32.toNatClampNeg x1)) C (bdT3 (show kd 41 = 6 from rfl)) (ceT3 (show kd 41 = 6 from rfl) _) g7 rfl dX8_as_28 ?_
      refine r_iload_n (pc := 29) C 2 dX8_as_29 rfl ?_
      have hM := c_X8_isOfKind X  M4 (M4 (41 + 3) (Int32.toNatClampNeg x1)) x2 _ h
      refine q_s0 (s1 := List.reverse [.int (M4 (41 + 3) (Int32.toNatClampNeg x1)), .int x2] ++ []) rfl ?_
      refine r_callSi (pc := 30) (As := [.int (M4 (41 + 3) (Int32.toNatClampNeg x1)), .int x2]) (st := []) C 2 hM aw881 aw882 aw883 aw2 yd_X8_isOfKind ⟨rfl, rfl⟩ ⟨Nat.le_of_ble_eq_true rfl, Nat.le_of_ble_eq_true rfl⟩ rfl (Nat.le_of_ble_eq_true rfl) dX8_as_30 (fun r9 M8 h => ?_)
      refine r_if_eq (pc := 33) (tgt := 44) C dX8_as_33 (by decide) (fun c10 => ?_) (fun c10 => ?_)
      · have h := h.1 c10
        refine r_aload_n (pc := 44) C 0 dX8_as_44 rfl ?_
        refine r_iconst (pc := 45) (v := 3) C dX8_as_45 (by decide) ?_
        have hM := c_X8_finding X  M8 3 _ h
        refine q_s0 (s1 := List.reverse [.int 3] ++ .ref (ad X 0) :: []) rfl ?_
        refine r_callVi (pc := 46) (k := 0) (As := [.int 3]) (st := []) C 1 (by decide) (ce0 _) rfl aw120 aw121 hM aw119 aw122 aw2 yd_X8_finding ⟨rfl, rfl⟩ ⟨Nat.le_of_ble_eq_true rfl, Nat.le_of_ble_eq_true rfl⟩ rfl (Nat.le_of_ble_eq_true rfl) dX8_as_46 (fun r12 M11 h => ?_)
        exact r_iret (pc := 49) C dX8_as_49 h
      · have h := h.2 c10
        refine r_aload_n (pc := 36) C 0 dX8_as_36 rfl ?_
        refine r_iload_n (pc := 37) C 1 dX8_as_37 rfl ?_
        have hM := c_X8_unfound X  M8 x1 _ h
        refine q_s0 (s1 := List.reverse [.int x1] ++ .ref (ad X 0) :: []) rfl ?_
        refine r_callVi (pc := 38) (k := 0) (As := [.int x1]) (st := []) C 1 (by decide) (ce0 _) rfl aw134 aw135 hM aw133 aw136 aw2 yd_X8_unfound ⟨rfl, rfl⟩ ⟨Nat.le_of_ble_eq_true rfl, Nat.le_of_ble_eq_true rfl⟩ rfl (Nat.le_of_ble_eq_true rfl) dX8_as_38 (fun r14 M13 h => ?_)
        refine r_goto (pc := 41) (tgt := 49) C dX8_as_41 (by decide) ?_
        exact r_iret (pc := 49) C dX8_as_49 h
    · have h := h.2 c6
      refine r_ldc (pc := 17) C aw115 dX8_as_17 ?_
      exact r_iret (pc := 19) C dX8_as_19 h
theorem yd_X8_trace : yX8_trace.cls ≠ "java/lang/invoke/MethodHandle" ∧ yX8_trace.cls ≠ "java/lang/invoke/VarHandle" ∧ (parseMethodDescriptor yX8_trace.desc).map (fun d => d.parameters.length) = some 1 := by decide +kernel
def w_X8_trace  (M : Mem) (x1 : Int32) (Q : Int32 → Mem → Prop) : Prop :=
  w_X8_within  M x1 (M 27 1) (fun r2 M1 => ((r2 = 0) → (Q (-1000000) M1)) ∧ ((¬ r2 = 0) → (vp_in x1 16 ∧ (Q (M1 28 (Int32.toNatClampNeg x1)) M1))))
abbrev rm_X8_trace : Room := { frames := 6, cells := 0, slots := 0, locals := 120 }
set_option maxHeartbeats 4000000 in
set_option maxRecDepth 100000 in
theorem c_X8_trace (X : Cx)  (M : Mem) (x1 : Int32) (Q : Int32 → Mem → Prop) (h : w_X8_trace  M x1 Q) : Ct yX8_trace cX8_trace 2 (some .int) rm_X8_trace X M [.ref (ad X 0), .int x1] (Qi X Q) := by
  refine ct_of (own := RX8) (lv := [(0, .ref (ad X 0)), (1, .int x1)]) rfl (by decide) (Nat.le_of_ble_eq_true rfl) rfl ?_
  intro K C
  unfold w_X8_trace at h
  refine r_iload_n (pc := 0) C 1 dX8_trace_0 rfl ?_
  refine r_aload_n (pc := 1) C 0 dX8_trace_1 rfl ?_
  refine r_get (pc := 2) (k := 0) (j := 3) (Cn := RX8) (T := TX8) (N := 12) C (by decide) (ce0 _) rfl iaX8 (by decide) aw25 rfl rfl dX8_trace_2 ?_
  refine r_getN (pc := 5) (k := 27) (j := 1) (Cn := RX1) (T := TX1) (N := 2) C (by decide) (ce27 _) rfl iaX1 (by decide) nf5 rfl rfl dX8_trace_5 ?_
  have hM := c_X8_within X  M x1 (M 27 1) _ h
  refine q_s0 (s1 := List.reverse [.int x1, .int (M 27 1)] ++ []) rfl ?_
  refine r_callSi (pc := 8) (As := [.int x1, .int (M 27 1)]) (st := []) C 2 hM aw116 aw117 aw118 aw2 yd_X8_within ⟨rfl, rfl⟩ ⟨Nat.le_of_ble_eq_true rfl, Nat.le_of_ble_eq_true rfl⟩ rfl (Nat.le_of_ble_eq_true rfl) dX8_trace_8 (fun r2 M1 h => ?_)
  refine r_if_eq (pc := 11) (tgt := 26) C dX8_trace_11 (by decide) (fun c3 => ?_) (fun c3 => ?_)
  · have h := h.1 c3
    refine r_ldcw (pc := 26) C aw753 dX8_trace_26 ?_
    exact r_iret (pc := 29) C dX8_trace_29 h
  · have h := h.2 c3
    refine r_aload_n (pc := 14) C 0 dX8_trace_14 rfl ?_
    refine r_get (pc := 15) (k := 0) (j := 3) (Cn := RX8) (T := TX8) (N := 12) C (by decide) (ce0 _) rfl iaX8 (by decide) aw25 rfl rfl dX8_trace_15 ?_
    refine r_getN (pc := 18) (k := 27) (j := 0) (Cn := RX1) (T := TX1) (N := 2) C (by decide) (ce27 _) rfl iaX1 (by decide) nf4 rfl rfl dX8_trace_18 ?_
    refine r_iload_n (pc := 21) C 1 dX8_trace_21 rfl ?_
    obtain ⟨g4, h⟩ := h
    refine q_iald (pc := 22) (k := 28) (n := 16) (j := (Int32.toNatClampNeg x1)) C (by decide) (ce28 _) g4 rfl dX8_trace_22 ?_
    refine r_goto (pc := 23) (tgt := 29) C dX8_trace_23 (by decide) ?_
    exact r_iret (pc := 29) C dX8_trace_29 h
theorem yd_X8_rowsThere : yX8_rowsThere.cls ≠ "java/lang/invoke/MethodHandle" ∧ yX8_rowsThere.cls ≠ "java/lang/invoke/VarHandle" ∧ (parseMethodDescriptor yX8_rowsThere.desc).map (fun d => d.parameters.length) = some 0 := by decide +kernel
def wB_X8_rowsThere_4  (Q : Int32 → Mem → Prop)  (R4 : Mem → Int32 → Int32 → Prop) (M : Mem) (x1 : Int32) (x2 : Int32) : Prop :=
  ((8 ≤ x2) → (Q x1 M)) ∧ ((¬ 8 ≤ x2) → (vp_in x2 8 ∧ (w_X4_isMissing (3 + 2 * Int32.toNatClampNeg x2) M  (fun r4 M3 => ((¬ r4 = 0) → (∀ v6 : Int32, v6 = x2 + 1 → (R4 M3 x1 v6))) ∧ ((r4 = 0) → (∀ v7 : Int32, v7 = x1 + 1 → (∀ v8 : Int32, v8 = x2 + 1 → (R4 M3 v7 v8))))))))
def wL_X8_rowsThere_4  (Q : Int32 → Mem → Prop)  : Nat → Mem → Int32 → Int32 → Prop
  | 0 => fun _ _ _ => False
  | n + 1 => fun M x1 x2 => wB_X8_rowsThere_4  Q  (wL_X8_rowsThere_4  Q  n) M x1 x2
theorem wL_X8_rowsThere_4_s  {Q : Int32 → Mem → Prop}  {n : Nat} {M : Mem} {x1 : Int32} {x2 : Int32} (h : wL_X8_rowsThere_4  Q  (n + 1) M x1 x2) : wB_X8_rowsThere_4  Q  (wL_X8_rowsThere_4  Q  n) M x1 x2 := h
def w_X8_rowsThere  (M : Mem)  (Q : Int32 → Mem → Prop) : Prop :=
  ∃ n1 : Nat, wL_X8_rowsThere_4  Q  n1 M 0 0
abbrev rm_X8_rowsThere : Room := { frames := 6, cells := 0, slots := 0, locals := 120 }
set_option maxHeartbeats 4000000 in
set_option maxRecDepth 100000 in
theorem c_X8_rowsThere (X : Cx)  (M : Mem)  (Q : Int32 → Mem → Prop) (h : w_X8_rowsThere  M  Q) : Ct yX8_rowsThere cX8_rowsThere 3 (some .int) rm_X8_rowsThere X M [.ref (ad X 0)] (Qi X Q) := by
  refine ct_of (own := RX8) (lv := [(0, .ref (ad X 0))]) rfl (by decide) (Nat.le_of_ble_eq_true rfl) rfl ?_
  intro K C
  have hL4 : ∀  (n : Nat) (M : Mem) (x1 : Int32) (x2 : Int32), wL_X8_rowsThere_4  Q  n M x1 x2 → WX K X 3 (Qi X Q) M 4 [(0, .ref (ad X 0)), (1, .int x1), (2, .int x2)] [] := by
    intro  n
    induction n with
    | zero => intro M x1 x2 h; exact absurd h id
    | succ n ih =>
      intro M x1 x2 h
      replace h := wL_X8_rowsThere_4_s h
      unfold wB_X8_rowsThere_4 at h
      refine r_iload_n (pc := 4) C 2 dX8_rowsThere_4 rfl ?_
      refine r_bipush (pc := 5) (v := 8) C dX8_rowsThere_5 (by decide) ?_
      refine r_icmp_ge (pc := 7) (tgt := 31) C dX8_rowsThere_7 (by decide) (fun c1 => ?_) (fun c1 => ?_)
      · have h := h.1 c1
        refine r_iload_n (pc := 31) C 1 dX8_rowsThere_31 rfl ?_
        exact r_iret (pc := 32) C dX8_rowsThere_32 h
      · have h := h.2 c1
        refine r_aload_n (pc := 10) C 0 dX8_rowsThere_10 rfl ?_
        refine r_get (pc := 11) (k := 0) (j := 0) (Cn := RX8) (T := TX8) (N := 12) C (by decide) (ce0 _) rfl iaX8 (by decide) aw13 rfl rfl dX8_rowsThere_11 ?_
        refine r_iload_n (pc := 14) C 2 dX8_rowsThere_14 rfl ?_
        obtain ⟨g2, h⟩ := h
        refine r_aldR (pc := 15) C g2 dX8_rowsThere_15 ?_
        have hM := c_X4_isMissing X (3 + 2 * Int32.toNatClampNeg x2) (kdRow g2) M  _ h
        refine q_s0 (s1 := List.reverse [] ++ .ref (ad X (3 + 2 * Int32.toNatClampNeg x2)) :: []) rfl ?_
        refine r_callVNi (pc := 16) (k := (3 + 2 * Int32.toNatClampNeg x2)) (As := []) (st := []) C 0 (bdR (kdRow g2)) (ceR (kdRow g2) _) rfl aw168 aw169 hM nm11 aw170 aw45 yd_X4_isMissing ⟨rfl, rfl⟩ ⟨Nat.le_of_ble_eq_true rfl, Nat.le_of_ble_eq_true rfl⟩ rfl (Nat.le_of_ble_eq_true rfl) dX8_rowsThere_16 (fun r4 M3 h => ?_)
        refine r_if_ne (pc := 19) (tgt := 25) C dX8_rowsThere_19 (by decide) (fun c5 => ?_) (fun c5 => ?_)
        · have h := h.1 c5
          obtain ⟨v6, ev6⟩ : ∃ z : Int32, z = x2 + 1 := ⟨_, rfl⟩
          replace h := h v6 ev6
          refine r_iinc (pc := 25) (v := v6) (lv2 := [(2, .int v6), (0, .ref (ad X 0)), (1, .int x1)]) C 2 dX8_rowsThere_25 rfl (by rw [ev6]; rfl) (by decide) rfl ?_
          refine r_goto (pc := 28) (tgt := 4) C dX8_rowsThere_28 (by decide) ?_
          refine r_sub (lv2 := [(0, .ref (ad X 0)), (1, .int x1), (2, .int v6)]) [1, 2, 0] rfl ?_
          exact ih _ _ _ h
        · have h := h.2 c5
          obtain ⟨v7, ev7⟩ : ∃ z : Int32, z = x1 + 1 := ⟨_, rfl⟩
          replace h := h v7 ev7
          refine r_iinc (pc := 22) (v := v7) (lv2 := [(1, .int v7), (0, .ref (ad X 0)), (2, .int x2)]) C 1 dX8_rowsThere_22 rfl (by rw [ev7]; rfl) (by decide) rfl ?_
          obtain ⟨v8, ev8⟩ : ∃ z : Int32, z = x2 + 1 := ⟨_, rfl⟩
          replace h := h v8 ev8
          refine r_iinc (pc := 25) (v := v8) (lv2 := [(2, .int v8), (1, .int v7), (0, .ref (ad X 0))]) C 2 dX8_rowsThere_25 rfl (by rw [ev8]; rfl) (by decide) rfl ?_
          refine r_goto (pc := 28) (tgt := 4) C dX8_rowsThere_28 (by decide) ?_
          refine r_sub (lv2 := [(0, .ref (ad X 0)), (1, .int v7), (2, .int v8)]) [2, 1, 0] rfl ?_
          exact ih _ _ _ h
  unfold w_X8_rowsThere at h
  refine r_iconst (pc := 0) (v := 0) C dX8_rowsThere_0 (by decide) ?_
  refine r_istore_n (pc := 1) (lv2 := [(1, .int 0), (0, .ref (ad X 0))]) C dX8_rowsThere_1 (by decide) rfl ?_
  refine r_iconst (pc := 2) (v := 0) C dX8_rowsThere_2 (by decide) ?_
  refine r_istore_n (pc := 3) (lv2 := [(2, .int 0), (1, .int 0), (0, .ref (ad X 0))]) C dX8_rowsThere_3 (by decide) rfl ?_
  obtain ⟨n1, h⟩ := h
  refine r_sub (lv2 := [(0, .ref (ad X 0)), (1, .int 0), (2, .int 0)]) [2, 1, 0] rfl ?_
  exact hL4  _ _ _ _ h
theorem yd_X8_count : yX8_count.cls ≠ "java/lang/invoke/MethodHandle" ∧ yX8_count.cls ≠ "java/lang/invoke/VarHandle" ∧ (parseMethodDescriptor yX8_count.desc).map (fun d => d.parameters.length) = some 1 := by decide +kernel
def w_X8_count  (M : Mem) (x1 : Int32) (Q : Int32 → Mem → Prop) : Prop :=
  (x1 = 0 → (w_X8_rowsThere  M  (fun r3 M2 => Q r3 M2))) ∧ (x1 = 1 → (Q (M 41 0) M)) ∧ (x1 = 2 → (Q (M 41 2) M)) ∧ (x1 = 3 → (Q (M 41 3) M)) ∧ (x1 = 4 → (Q (M 41 5) M)) ∧ (x1 = 5 → (w_X6_allTimes 41 M  (fun r10 M9 => Q r10 M9))) ∧ (x1 = 6 → (Q (M 41 4) M)) ∧ (x1 = 7 → (Q (M 21 6) M)) ∧ (x1 = 8 → (Q (M 19 1) M)) ∧ (¬ x1 = 0 → ¬ x1 = 1 → ¬ x1 = 2 → ¬ x1 = 3 → ¬ x1 = 4 → ¬ x1 = 5 → ¬ x1 = 6 → ¬ x1 = 7 → ¬ x1 = 8 → (Q (-1000001) M))
abbrev rm_X8_count : Room := { frames := 12, cells := 0, slots := 0, locals := 240 }
set_option maxHeartbeats 4000000 in
set_option maxRecDepth 100000 in
theorem c_X8_count (X : Cx)  (M : Mem) (x1 : Int32) (Q : Int32 → Mem → Prop) (h : w_X8_count  M x1 Q) : Ct yX8_count cX8_count 2 (some .int) rm_X8_count X M [.ref (ad X 0), .int x1] (Qi X Q) := by
  refine ct_of (own := RX8) (lv := [(0, .ref (ad X 0)), (1, .int x1)]) rfl (by decide) (Nat.le_of_ble_eq_true rfl) rfl ?_
  intro K C
  unfold w_X8_count at h
  refine r_iload_n (pc := 0) C 1 dX8_count_0 rfl ?_
  by_cases e1 : x1 = 0
  · have h := h.1 e1
    refine r_tabIn (pc := 1) (off := 51) (tgt := 52) C 0 e1 dX8_count_1 (by decide) (by decide) (by decide) (by decide) ?_
    refine r_aload_n (pc := 52) C 0 dX8_count_52 rfl ?_
    have hM := c_X8_rowsThere X  M  _ h
    refine q_s0 (s1 := List.reverse [] ++ .ref (ad X 0) :: []) rfl ?_
    refine r_callVi (pc := 53) (k := 0) (As := []) (st := []) C 0 (by decide) (ce0 _) rfl aw968 aw969 hM aw967 aw970 aw2 yd_X8_rowsThere ⟨rfl, rfl⟩ ⟨Nat.le_of_ble_eq_true rfl, Nat.le_of_ble_eq_true rfl⟩ rfl (Nat.le_of_ble_eq_true rfl) dX8_count_53 (fun r3 M2 h => ?_)
    exact r_iret (pc := 56) C dX8_count_56 h
  · skip
    by_cases e4 : x1 = 1
    · have h := h.2.1 e4
      refine r_tabIn (pc := 1) (off := 56) (tgt := 57) C 1 e4 dX8_count_1 (by decide) (by decide) (by decide) (by decide) ?_
      refine r_aload_n (pc := 57) C 0 dX8_count_57 rfl ?_
      refine r_get (pc := 58) (k := 0) (j := 4) (Cn := RX8) (T := TX8) (N := 12) C (by decide) (ce0 _) rfl iaX8 (by decide) aw29 rfl rfl dX8_count_58 ?_
      refine r_getN (pc := 61) (k := 41) (j := 0) (Cn := RX6) (T := TX6) (N := 16) C (bdT (show kd 41 = 6 from rfl)) (ceT (show kd 41 = 6 from rfl) _) rfl iaX6 (by decide) nf7 rfl rfl dX8_count_61 ?_
      exact r_iret (pc := 64) C dX8_count_64 h
    · skip
      by_cases e5 : x1 = 2
      · have h := h.2.2.1 e5
        refine r_tabIn (pc := 1) (off := 64) (tgt := 65) C 2 e5 dX8_count_1 (by decide) (by decide) (by decide) (by decide) ?_
        refine r_aload_n (pc := 65) C 0 dX8_count_65 rfl ?_
        refine r_get (pc := 66) (k := 0) (j := 4) (Cn := RX8) (T := TX8) (N := 12) C (by decide) (ce0 _) rfl iaX8 (by decide) aw29 rfl rfl dX8_count_66 ?_
        refine r_getN (pc := 69) (k := 41) (j := 2) (Cn := RX6) (T := TX6) (N := 16) C (bdT (show kd 41 = 6 from rfl)) (ceT (show kd 41 = 6 from rfl) _) rfl iaX6 (by decide) nf11 rfl rfl dX8_count_69 ?_
        exact r_iret (pc := 72) C dX8_count_72 h
      · skip
        by_cases e6 : x1 = 3
        · have h := h.2.2.2.1 e6
          refine r_tabIn (pc := 1) (off := 72) (tgt := 73) C 3 e6 dX8_count_1 (by decide) (by decide) (by decide) (by decide) ?_
          refine r_aload_n (pc := 73) C 0 dX8_count_73 rfl ?_
          refine r_get (pc := 74) (k := 0) (j := 4) (Cn := RX8) (T := TX8) (N := 12) C (by decide) (ce0 _) rfl iaX8 (by decide) aw29 rfl rfl dX8_count_74 ?_
          refine r_getN (pc := 77) (k := 41) (j := 3) (Cn := RX6) (T := TX6) (N := 16) C (bdT (show kd 41 = 6 from rfl)) (ceT (show kd 41 = 6 from rfl) _) rfl iaX6 (by decide) nf15 rfl rfl dX8_count_77 ?_
          exact r_iret (pc := 80) C dX8_count_80 h
        · skip
          by_cases e7 : x1 = 4
          · have h := h.2.2.2.2.1 e7
            refine r_tabIn (pc := 1) (off := 80) (tgt := 81) C 4 e7 dX8_count_1 (by decide) (by decide) (by decide) (by decide) ?_
            refine r_aload_n (pc := 81) C 0 dX8_count_81 rfl ?_
            refine r_get (pc := 82) (k := 0) (j := 4) (Cn := RX8) (T := TX8) (N := 12) C (by decide) (ce0 _) rfl iaX8 (by decide) aw29 rfl rfl dX8_count_82 ?_
            refine r_getN (pc := 85) (k := 41) (j := 5) (Cn := RX6) (T := TX6) (N := 16) C (bdT (show kd 41 = 6 from rfl)) (ceT (show kd 41 = 6 from rfl) _) rfl iaX6 (by decide) nf19 rfl rfl dX8_count_85 ?_
            exact r_iret (pc := 88) C dX8_count_88 h
          · skip
            by_cases e8 : x1 = 5
            · have h := h.2.2.2.2.2.1 e8
              refine r_tabIn (pc := 1) (off := 88) (tgt := 89) C 5 e8 dX8_count_1 (by decide) (by decide) (by decide) (by decide) ?_
              refine r_aload_n (pc := 89) C 0 dX8_count_89 rfl ?_
              refine r_get (pc := 90) (k := 0) (j := 4) (Cn := RX8) (T := TX8) (N := 12) C (by decide) (ce0 _) rfl iaX8 (by decide) aw29 rfl rfl dX8_count_90 ?_
              have hM := c_X6_allTimes X 41 (show kd 41 = 6 from rfl) M  _ h
              refine q_s0 (s1 := List.reverse [] ++ .ref (ad X 41) :: []) rfl ?_
              refine r_callVNi (pc := 93) (k := 41) (As := []) (st := []) C 0 (bdT (show kd 41 = 6 from rfl)) (ceT (show kd 41 = 6 from rfl) _) rfl aw971 aw972 hM nm61 aw973 aw28 yd_X6_allTimes ⟨rfl, rfl⟩ ⟨Nat.le_of_ble_eq_true rfl, Nat.le_of_ble_eq_true rfl⟩ rfl (Nat.le_of_ble_eq_true rfl) dX8_count_93 (fun r10 M9 h => ?_)
              exact r_iret (pc := 96) C dX8_count_96 h
            · skip
              by_cases e11 : x1 = 6
              · have h := h.2.2.2.2.2.2.1 e11
                refine r_tabIn (pc := 1) (off := 96) (tgt := 97) C 6 e11 dX8_count_1 (by decide) (by decide) (by decide) (by decide) ?_
                refine r_aload_n (pc := 97) C 0 dX8_count_97 rfl ?_
                refine r_get (pc := 98) (k := 0) (j := 4) (Cn := RX8) (T := TX8) (N := 12) C (by decide) (ce0 _) rfl iaX8 (by decide) aw29 rfl rfl dX8_count_98 ?_
                refine r_getN (pc := 101) (k := 41) (j := 4) (Cn := RX6) (T := TX6) (N := 16) C (bdT (show kd 41 = 6 from rfl)) (ceT (show kd 41 = 6 from rfl) _) rfl iaX6 (by decide) nf17 rfl rfl dX8_count_101 ?_
                exact r_iret (pc := 104) C dX8_count_104 h
              · skip
                by_cases e12 : x1 = 7
                · have h := h.2.2.2.2.2.2.2.1 e12
                  refine r_tabIn (pc := 1) (off := 104) (tgt := 105) C 7 e12 dX8_count_1 (by decide) (by decide) (by decide) (by decide) ?_
                  refine r_aload_n (pc := 105) C 0 dX8_count_105 rfl ?_
                  refine r_get (pc := 106) (k := 0) (j := 2) (Cn := RX8) (T := TX8) (N := 12) C (by decide) (ce0 _) rfl iaX8 (by decide) aw21 rfl rfl dX8_count_106 ?_
                  refine r_getN (pc := 109) (k := 21) (j := 6) (Cn := RX0) (T := TX0) (N := 7) C (by decide) (ce21 _) rfl iaX0 (by decide) nf3 rfl rfl dX8_count_109 ?_
                  exact r_iret (pc := 112) C dX8_count_112 h
                · skip
                  by_cases e13 : x1 = 8
                  · have h := h.2.2.2.2.2.2.2.2.1 e13
                    refine r_tabIn (pc := 1) (off := 112) (tgt := 113) C 8 e13 dX8_count_1 (by decide) (by decide) (by decide) (by decide) ?_
                    refine r_aload_n (pc := 113) C 0 dX8_count_113 rfl ?_
                    refine r_get (pc := 114) (k := 0) (j := 1) (Cn := RX8) (T := TX8) (N := 12) C (by decide) (ce0 _) rfl iaX8 (by decide) aw17 rfl rfl dX8_count_114 ?_
                    refine r_getN (pc := 117) (k := 19) (j := 1) (Cn := RX3) (T := TX3) (N := 6) C (by decide) (ce19 _) rfl iaX3 (by decide) nf0 rfl rfl dX8_count_117 ?_
                    exact r_iret (pc := 120) C dX8_count_120 h
                  · skip
                    have h := h.2.2.2.2.2.2.2.2.2 e1 e4 e5 e6 e7 e8 e11 e12 e13
                    refine r_tabOut (pc := 1) (tgt := 121) C dX8_count_1 (by have ke1 := ne_toInt (n := 0) e1 (by decide); have ke4 := ne_toInt (n := 1) e4 (by decide); have ke5 := ne_toInt (n := 2) e5 (by decide); have ke6 := ne_toInt (n := 3) e6 (by decide); have ke7 := ne_toInt (n := 4) e7 (by decide); have ke8 := ne_toInt (n := 5) e8 (by decide); have ke11 := ne_toInt (n := 6) e11 (by decide); have ke12 := ne_toInt (n := 7) e12 (by decide); have ke13 := ne_toInt (n := 8) e13 (by decide); omega) (by decide) ?_
                    refine r_ldc (pc := 121) C aw115 dX8_count_121 ?_
                    exact r_iret (pc := 123) C dX8_count_123 h
theorem yd_X8_status : yX8_status.cls ≠ "java/lang/invoke/MethodHandle" ∧ yX8_status.cls ≠ "java/lang/invoke/VarHandle" ∧ (parseMethodDescriptor yX8_status.desc).map (fun d => d.parameters.length) = some 0 := by decide +kernel
def w_X8_status  (M : Mem)  (Q : Int32 → Mem → Prop) : Prop :=
  Q (M 0 11) M
abbrev rm_X8_status : Room := { frames := 3, cells := 0, slots := 0, locals := 60 }
set_option maxHeartbeats 4000000 in
set_option maxRecDepth 100000 in
theorem c_X8_status (X : Cx)  (M : Mem)  (Q : Int32 → Mem → Prop) (h : w_X8_status  M  Q) : Ct yX8_status cX8_status 1 (some .int) rm_X8_status X M [.ref (ad X 0)] (Qi X Q) := by
  refine ct_of (own := RX8) (lv := [(0, .ref (ad X 0))]) rfl (by decide) (Nat.le_of_ble_eq_true rfl) rfl ?_
  intro K C
  unfold w_X8_status at h
  refine r_aload_n (pc := 0) C 0 dX8_status_0 rfl ?_
  refine r_get (pc := 1) (k := 0) (j := 11) (Cn := RX8) (T := TX8) (N := 12) C (by decide) (ce0 _) rfl iaX8 (by decide) aw123 rfl rfl dX8_status_1 ?_
  exact r_iret (pc := 4) C dX8_status_4 h
