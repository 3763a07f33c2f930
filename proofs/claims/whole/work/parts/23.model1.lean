theorem yd_X9_in : yX9_in.cls ≠ "java/lang/invoke/MethodHandle" ∧ yX9_in.cls ≠ "java/lang/invoke/VarHandle" ∧ (parseMethodDescriptor yX9_in.desc).map (fun d => d.parameters.length) = some 3 := by decide +kernel
def w_X9_in  (M : Mem) (x0 : Int64) (x2 : Int64) (x4 : Int64) (Q : Int32 → Mem → Prop) : Prop :=
  (((lg_cmp x0 x2) < 0) → (Q 0 M)) ∧ ((¬ (lg_cmp x0 x2) < 0) → (((0 < (lg_cmp x0 x4)) → (Q 0 M)) ∧ ((¬ 0 < (lg_cmp x0 x4)) → (Q 1 M))))
abbrev rm_X9_in : Room := { frames := 3, cells := 0, slots := 0, locals := 60 }
set_option maxHeartbeats 4000000 in
set_option maxRecDepth 100000 in
theorem c_X9_in (X : Cx)  (M : Mem) (x0 : Int64) (x2 : Int64) (x4 : Int64) (Q : Int32 → Mem → Prop) (h : w_X9_in  M x0 x2 x4 Q) : Ct yX9_in cX9_in 6 (some .boolean) rm_X9_in X M [.long x0, .long x2, .long x4] (Qi X Q) := by
  refine ct_of (own := RX9) (lv := [(0, .long x0), (2, .long x2), (4, .long x4)]) rfl (by decide) (Nat.le_of_ble_eq_true rfl) rfl ?_
  intro K C
  unfold w_X9_in at h
  refine r_lload_n (pc := 0) C 0 dX9_in_0 rfl ?_
  refine r_lload_n (pc := 1) C 1 dX9_in_1 rfl ?_
  refine r_lcmp (pc := 2) C dX9_in_2 ?_
  refine r_if_lt (pc := 3) (tgt := 17) C dX9_in_3 (by decide) (fun c1 => ?_) (fun c1 => ?_)
  · have h := h.1 c1
    refine r_iconst (pc := 17) (v := 0) C dX9_in_17 (by decide) ?_
    exact r_zret (pc := 18) C dX9_in_18 (Or.inl rfl) h
  · have h := h.2 c1
    refine r_lload_n (pc := 6) C 0 dX9_in_6 rfl ?_
    refine r_lload (pc := 7) C 2 dX9_in_7 rfl ?_
    refine r_lcmp (pc := 9) C dX9_in_9 ?_
    refine r_if_gt (pc := 10) (tgt := 17) C dX9_in_10 (by decide) (fun c2 => ?_) (fun c2 => ?_)
    · have h := h.1 c2
      refine r_iconst (pc := 17) (v := 0) C dX9_in_17 (by decide) ?_
      exact r_zret (pc := 18) C dX9_in_18 (Or.inl rfl) h
    · have h := h.2 c2
      refine r_iconst (pc := 13) (v := 1) C dX9_in_13 (by decide) ?_
      refine r_goto (pc := 14) (tgt := 18) C dX9_in_14 (by decide) ?_
      exact r_zret (pc := 18) C dX9_in_18 (Or.inr rfl) h
theorem yd_X9_has : yX9_has.cls ≠ "java/lang/invoke/MethodHandle" ∧ yX9_has.cls ≠ "java/lang/invoke/VarHandle" ∧ (parseMethodDescriptor yX9_has.desc).map (fun d => d.parameters.length) = some 2 := by decide +kernel
def w_X9_has  (M : Mem) (x0 : Int32) (x1 : Int32) (Q : Int32 → Mem → Prop) : Prop :=
  ((¬ ((x0 >>> (x1 &&& 31)) &&& 1) = 1) → (Q 0 M)) ∧ ((((x0 >>> (x1 &&& 31)) &&& 1) = 1) → (Q 1 M))
abbrev rm_X9_has : Room := { frames := 3, cells := 0, slots := 0, locals := 60 }
set_option maxHeartbeats 4000000 in
set_option maxRecDepth 100000 in
theorem c_X9_has (X : Cx)  (M : Mem) (x0 : Int32) (x1 : Int32) (Q : Int32 → Mem → Prop) (h : w_X9_has  M x0 x1 Q) : Ct yX9_has cX9_has 2 (some .boolean) rm_X9_has X M [.int x0, .int x1] (Qi X Q) := by
  refine ct_of (own := RX9) (lv := [(0, .int x0), (1, .int x1)]) rfl (by decide) (Nat.le_of_ble_eq_true rfl) rfl ?_
  intro K C
  unfold w_X9_has at h
  refine r_iload_n (pc := 0) C 0 dX9_has_0 rfl ?_
  refine r_iload_n (pc := 1) C 1 dX9_has_1 rfl ?_
  refine r_ishr (pc := 2) C dX9_has_2 ?_
  refine r_iconst (pc := 3) (v := 1) C dX9_has_3 (by decide) ?_
  refine r_iand (pc := 4) C dX9_has_4 ?_
  refine r_iconst (pc := 5) (v := 1) C dX9_has_5 (by decide) ?_
  refine r_icmp_ne (pc := 6) (tgt := 13) C dX9_has_6 (by decide) (fun c1 => ?_) (fun c1 => ?_)
  · have h := h.1 c1
    refine r_iconst (pc := 13) (v := 0) C dX9_has_13 (by decide) ?_
    exact r_zret (pc := 14) C dX9_has_14 (Or.inl rfl) h
  · have h := h.2 c1
    refine r_iconst (pc := 9) (v := 1) C dX9_has_9 (by decide) ?_
    refine r_goto (pc := 10) (tgt := 14) C dX9_has_10 (by decide) ?_
    exact r_zret (pc := 14) C dX9_has_14 (Or.inr rfl) h
theorem yd_X9_bits : yX9_bits.cls ≠ "java/lang/invoke/MethodHandle" ∧ yX9_bits.cls ≠ "java/lang/invoke/VarHandle" ∧ (parseMethodDescriptor yX9_bits.desc).map (fun d => d.parameters.length) = some 1 := by decide +kernel
def wB_X9_bits_4  (Q : Int32 → Mem → Prop)  (R4 : Mem → Int32 → Int32 → Int32 → Prop) (M : Mem) (x0 : Int32) (x1 : Int32) (x2 : Int32) : Prop :=
  ((6 ≤ x2) → (Q x1 M)) ∧ ((¬ 6 ≤ x2) → (∀ v2 : Int32, v2 = (x1 + ((x0 >>> (x2 &&& 31)) &&& 1)) → (∀ v3 : Int32, v3 = x2 + 1 → (R4 M x0 v2 v3))))
def wL_X9_bits_4  (Q : Int32 → Mem → Prop)  : Nat → Mem → Int32 → Int32 → Int32 → Prop
  | 0 => fun _ _ _ _ => False
  | n + 1 => fun M x0 x1 x2 => wB_X9_bits_4  Q  (wL_X9_bits_4  Q  n) M x0 x1 x2
theorem wL_X9_bits_4_s  {Q : Int32 → Mem → Prop}  {n : Nat} {M : Mem} {x0 : Int32} {x1 : Int32} {x2 : Int32} (h : wL_X9_bits_4  Q  (n + 1) M x0 x1 x2) : wB_X9_bits_4  Q  (wL_X9_bits_4  Q  n) M x0 x1 x2 := h
def w_X9_bits  (M : Mem) (x0 : Int32) (Q : Int32 → Mem → Prop) : Prop :=
  ∃ n1 : Nat, wL_X9_bits_4  Q  n1 M x0 0 0
abbrev rm_X9_bits : Room := { frames := 3, cells := 0, slots := 0, locals := 60 }
set_option maxHeartbeats 4000000 in
set_option maxRecDepth 100000 in
theorem c_X9_bits (X : Cx)  (M : Mem) (x0 : Int32) (Q : Int32 → Mem → Prop) (h : w_X9_bits  M x0 Q) : Ct yX9_bits cX9_bits 3 (some .int) rm_X9_bits X M [.int x0] (Qi X Q) := by
  refine ct_of (own := RX9) (lv := [(0, .int x0)]) rfl (by decide) (Nat.le_of_ble_eq_true rfl) rfl ?_
  intro K C
  have hL4 : ∀  (n : Nat) (M : Mem) (x0 : Int32) (x1 : Int32) (x2 : Int32), wL_X9_bits_4  Q  n M x0 x1 x2 → WX K X 3 (Qi X Q) M 4 [(0, .int x0), (1, .int x1), (2, .int x2)] [] := by
    intro  n
    induction n with
    | zero => intro M x0 x1 x2 h; exact absurd h id
    | succ n ih =>
      intro M x0 x1 x2 h
      replace h := wL_X9_bits_4_s h
      unfold wB_X9_bits_4 at h
      refine r_iload_n (pc := 4) C 2 dX9_bits_4 rfl ?_
      refine r_bipush (pc := 5) (v := 6) C dX9_bits_5 (by decide) ?_
      refine r_icmp_ge (pc := 7) (tgt := 24) C dX9_bits_7 (by decide) (fun c1 => ?_) (fun c1 => ?_)
      · have h := h.1 c1
        refine r_iload_n (pc := 24) C 1 dX9_bits_24 rfl ?_
        exact r_iret (pc := 25) C dX9_bits_25 h
      · have h := h.2 c1
        refine r_iload_n (pc := 10) C 1 dX9_bits_10 rfl ?_
        refine r_iload_n (pc := 11) C 0 dX9_bits_11 rfl ?_
        refine r_iload_n (pc := 12) C 2 dX9_bits_12 rfl ?_
        refine r_ishr (pc := 13) C dX9_bits_13 ?_
        refine r_iconst (pc := 14) (v := 1) C dX9_bits_14 (by decide) ?_
        refine r_iand (pc := 15) C dX9_bits_15 ?_
        refine r_iadd (pc := 16) C dX9_bits_16 ?_
        refine r_topi (fun v2 ev2 => ?_)
        replace h := h v2 ev2
        refine r_istore_n (pc := 17) (lv2 := [(1, .int v2), (0, .int x0), (2, .int x2)]) C dX9_bits_17 (by decide) rfl ?_
        obtain ⟨v3, ev3⟩ : ∃ z : Int32, z = x2 + 1 := ⟨_, rfl⟩
        replace h := h v3 ev3
        refine r_iinc (pc := 18) (v := v3) (lv2 := [(2, .int v3), (1, .int v2), (0, .int x0)]) C 2 dX9_bits_18 rfl (by rw [ev3]; rfl) (by decide) rfl ?_
        refine r_goto (pc := 21) (tgt := 4) C dX9_bits_21 (by decide) ?_
        refine r_sub (lv2 := [(0, .int x0), (1, .int v2), (2, .int v3)]) [2, 1, 0] rfl ?_
        exact ih _ _ _ _ h
  unfold w_X9_bits at h
  refine r_iconst (pc := 0) (v := 0) C dX9_bits_0 (by decide) ?_
  refine r_istore_n (pc := 1) (lv2 := [(1, .int 0), (0, .int x0)]) C dX9_bits_1 (by decide) rfl ?_
  refine r_iconst (pc := 2) (v := 0) C dX9_bits_2 (by decide) ?_
  refine r_istore_n (pc := 3) (lv2 := [(2, .int 0), (1, .int 0), (0, .int x0)]) C dX9_bits_3 (by decide) rfl ?_
  obtain ⟨n1, h⟩ := h
  refine r_sub (lv2 := [(0, .int x0), (1, .int 0), (2, .int 0)]) [2, 1, 0] rfl ?_
  exact hL4  _ _ _ _ _ h
theorem yd_X9_find : yX9_find.cls ≠ "java/lang/invoke/MethodHandle" ∧ yX9_find.cls ≠ "java/lang/invoke/VarHandle" ∧ (parseMethodDescriptor yX9_find.desc).map (fun d => d.parameters.length) = some 1 := by decide +kernel
def w_X9_find  (M : Mem) (x1 : Int32) (Q : Int32 → Mem → Prop) : Prop :=
  ∀ M1 : Mem, M1 = ms M 85 9 x1 → (Q ((-1000010) - x1) M1)
abbrev rm_X9_find : Room := { frames := 3, cells := 0, slots := 0, locals := 60 }
set_option maxHeartbeats 4000000 in
set_option maxRecDepth 100000 in
theorem c_X9_find (X : Cx)  (M : Mem) (x1 : Int32) (Q : Int32 → Mem → Prop) (h : w_X9_find  M x1 Q) : Ct yX9_find cX9_find 2 (some .int) rm_X9_find X M [.ref (ad X 85), .int x1] (Qi X Q) := by
  refine ct_of (own := RX9) (lv := [(0, .ref (ad X 85)), (1, .int x1)]) rfl (by decide) (Nat.le_of_ble_eq_true rfl) rfl ?_
  intro K C
  unfold w_X9_find at h
  refine r_aload_n (pc := 0) C 0 dX9_find_0 rfl ?_
  refine r_iload_n (pc := 1) C 1 dX9_find_1 rfl ?_
  refine r_put (pc := 2) (k := 85) (j := 9) (Cn := RX9) (T := TX9) (N := 21) (host := "") C (by decide) (ce85 _) rfl iaX9 (by decide) (ce85 _) tyX9_ok nmX9 aw154 rfl rfl (tyX9_ok 9 (by decide)) (Nat.le_of_ble_eq_true rfl) dX9_find_2 ?_
  refine r_topM (fun M1 eM1 => ?_)
  replace h := h M1 eM1
  refine r_ldc (pc := 5) C aw155 dX9_find_5 ?_
  refine r_iload_n (pc := 7) C 1 dX9_find_7 rfl ?_
  refine r_isub (pc := 8) C dX9_find_8 ?_
  exact r_iret (pc := 9) C dX9_find_9 h
theorem yd_X9_well : yX9_well.cls ≠ "java/lang/invoke/MethodHandle" ∧ yX9_well.cls ≠ "java/lang/invoke/VarHandle" ∧ (parseMethodDescriptor yX9_well.desc).map (fun d => d.parameters.length) = some 1 := by decide +kernel
def w_X9_well  (M : Mem) (x1 : Int32) (Q : Int32 → Mem → Prop) : Prop :=
  ∀ M1 : Mem, M1 = ms M 85 9 0 → (Q x1 M1)
abbrev rm_X9_well : Room := { frames := 3, cells := 0, slots := 0, locals := 60 }
set_option maxHeartbeats 4000000 in
set_option maxRecDepth 100000 in
theorem c_X9_well (X : Cx)  (M : Mem) (x1 : Int32) (Q : Int32 → Mem → Prop) (h : w_X9_well  M x1 Q) : Ct yX9_well cX9_well 2 (some .int) rm_X9_well X M [.ref (ad X 85), .int x1] (Qi X Q) := by
  refine ct_of (own := RX9) (lv := [(0, .ref (ad X 85)), (1, .int x1)]) rfl (by decide) (Nat.le_of_ble_eq_true rfl) rfl ?_
  intro K C
  unfold w_X9_well at h
  refine r_aload_n (pc := 0) C 0 dX9_well_0 rfl ?_
  refine r_iconst (pc := 1) (v := 0) C dX9_well_1 (by decide) ?_
  refine r_put (pc := 2) (k := 85) (j := 9) (Cn := RX9) (T := TX9) (N := 21) (host := "") C (by decide) (ce85 _) rfl iaX9 (by decide) (ce85 _) tyX9_ok nmX9 aw154 rfl rfl (tyX9_ok 9 (by decide)) (Nat.le_of_ble_eq_true rfl) dX9_well_2 ?_
  refine r_topM (fun M1 eM1 => ?_)
  replace h := h M1 eM1
  refine r_iload_n (pc := 5) C 1 dX9_well_5 rfl ?_
  exact r_iret (pc := 6) C dX9_well_6 h
theorem yd_X9_isRow : yX9_isRow.cls ≠ "java/lang/invoke/MethodHandle" ∧ yX9_isRow.cls ≠ "java/lang/invoke/VarHandle" ∧ (parseMethodDescriptor yX9_isRow.desc).map (fun d => d.parameters.length) = some 1 := by decide +kernel
def w_X9_isRow  (M : Mem) (x0 : Int32) (Q : Int32 → Mem → Prop) : Prop :=
  w_X9_in  M (Int32.toInt64 x0) 0 7 (fun r2 M1 => vz r2 ∧ Q r2 M1)
abbrev rm_X9_isRow : Room := { frames := 6, cells := 0, slots := 0, locals := 120 }
set_option maxHeartbeats 4000000 in
set_option maxRecDepth 100000 in
theorem c_X9_isRow (X : Cx)  (M : Mem) (x0 : Int32) (Q : Int32 → Mem → Prop) (h : w_X9_isRow  M x0 Q) : Ct yX9_isRow cX9_isRow 1 (some .boolean) rm_X9_isRow X M [.int x0] (Qi X Q) := by
  refine ct_of (own := RX9) (lv := [(0, .int x0)]) rfl (by decide) (Nat.le_of_ble_eq_true rfl) rfl ?_
  intro K C
  unfold w_X9_isRow at h
  refine r_iload_n (pc := 0) C 0 dX9_isRow_0 rfl ?_
  refine r_i2l (pc := 1) C dX9_isRow_1 ?_
  refine r_lconst (pc := 2) (v := 0) C dX9_isRow_2 (by decide) ?_
  refine r_ldc2 (pc := 3) C aw146 dX9_isRow_3 ?_
  have hM := c_X9_in X  M (Int32.toInt64 x0) 0 7 _ h
  refine q_s0 (s1 := List.reverse [.long (Int32.toInt64 x0), .long 0, .long 7] ++ []) rfl ?_
  refine r_callSi (pc := 6) (As := [.long (Int32.toInt64 x0), .long 0, .long 7]) (st := []) C 3 hM aw147 aw148 aw149 aw5 yd_X9_in ⟨rfl, rfl⟩ ⟨Nat.le_of_ble_eq_true rfl, Nat.le_of_ble_eq_true rfl⟩ rfl (Nat.le_of_ble_eq_true rfl) dX9_isRow_6 (fun r2 M1 h => ?_)
  exact r_zret (pc := 9) C dX9_isRow_9 h.1 h.2
theorem yd_X9_row : yX9_row.cls ≠ "java/lang/invoke/MethodHandle" ∧ yX9_row.cls ≠ "java/lang/invoke/VarHandle" ∧ (parseMethodDescriptor yX9_row.desc).map (fun d => d.parameters.length) = some 3 := by decide +kernel
def wB_X9_row_55  (Q : Int32 → Mem → Prop)  (R55 : Mem → Int32 → Int32 → Int32 → Prop) (M : Mem) (x1 : Int32) (x3 : Int32) (x4 : Int32) : Prop :=
  ((40 ≤ x4) → (w_X9_well  M x3 (fun r3 M2 => Q r3 M2))) ∧ ((¬ 40 ≤ x4) → (vp_in ((40 * x1) + x4) 320 ∧ (∀ M5 : Mem, M5 = ms M 90 (Int32.toNatClampNeg ((40 * x1) + x4)) 0 → (∀ v6 : Int32, v6 = x4 + 1 → (R55 M5 x1 x3 v6)))))
def wL_X9_row_55  (Q : Int32 → Mem → Prop)  : Nat → Mem → Int32 → Int32 → Int32 → Prop
  | 0 => fun _ _ _ _ => False
  | n + 1 => fun M x1 x3 x4 => wB_X9_row_55  Q  (wL_X9_row_55  Q  n) M x1 x3 x4
theorem wL_X9_row_55_s  {Q : Int32 → Mem → Prop}  {n : Nat} {M : Mem} {x1 : Int32} {x3 : Int32} {x4 : Int32} (h : wL_X9_row_55  Q  (n + 1) M x1 x3 x4) : wB_X9_row_55  Q  (wL_X9_row_55  Q  n) M x1 x3 x4 := h
def w_X9_row  (M : Mem) (x1 : Int32) (x2 : Int32) (x3 : Int32) (Q : Int32 → Mem → Prop) : Prop :=
  w_X9_isRow  M x1 (fun r2 M1 => ((r2 = 0) → (Q (-1000001) M1)) ∧ ((¬ r2 = 0) → (w_X9_in  M1 (Int32.toInt64 x2) 0 2 (fun r5 M4 => ((r5 = 0) → (Q (-1000001) M4)) ∧ ((¬ r5 = 0) → (((x3 ≤ 40) → (((0 ≤ x3) → (vp_in x1 8 ∧ (∀ M10 : Mem, M10 = ms M4 88 (Int32.toNatClampNeg x1) x2 → (vp_in x1 8 ∧ (∀ M12 : Mem, M12 = ms M10 89 (Int32.toNatClampNeg x1) x3 → (∃ n13 : Nat, wL_X9_row_55  Q  n13 M12 x1 x3 0)))))) ∧ ((¬ 0 ≤ x3) → (w_X9_find  M4 4 (fun r15 M14 => Q r15 M14))))) ∧ ((¬ x3 ≤ 40) → (Q (-1000001) M4))))))))
abbrev rm_X9_row : Room := { frames := 9, cells := 0, slots := 0, locals := 180 }
set_option maxHeartbeats 4000000 in
set_option maxRecDepth 100000 in
theorem c_X9_row (X : Cx)  (M : Mem) (x1 : Int32) (x2 : Int32) (x3 : Int32) (Q : Int32 → Mem → Prop) (h : w_X9_row  M x1 x2 x3 Q) : Ct yX9_row cX9_row 5 (some .int) rm_X9_row X M [.ref (ad X 85), .int x1, .int x2, .int x3] (Qi X Q) := by
  refine ct_of (own := RX9) (lv := [(0, .ref (ad X 85)), (1, .int x1), (2, .int x2), (3, .int x3)]) rfl (by decide) (Nat.le_of_ble_eq_true rfl) rfl ?_
  intro K C
  have hL55 : ∀  (n : Nat) (M : Mem) (x1 : Int32) (x3 : Int32) (x4 : Int32), wL_X9_row_55  Q  n M x1 x3 x4 → WX K X 5 (Qi X Q) M 55 [(0, .ref (ad X 85)), (1, .int x1), (3, .int x3), (4, .int x4)] [] := by
    intro  n
    induction n with
    | zero => intro M x1 x3 x4 h; exact absurd h id
    | succ n ih =>
      intro M x1 x3 x4 h
      replace h := wL_X9_row_55_s h
      unfold wB_X9_row_55 at h
      refine r_iload (pc := 55) C 3 dX9_row_55 rfl ?_
      refine r_bipush (pc := 57) (v := 40) C dX9_row_57 (by decide) ?_
      refine r_icmp_ge (pc := 59) (tgt := 81) C dX9_row_59 (by decide) (fun c1 => ?_) (fun c1 => ?_)
      · have h := h.1 c1
        refine r_aload_n (pc := 81) C 0 dX9_row_81 rfl ?_
        refine r_iload_n (pc := 82) C 2 dX9_row_82 rfl ?_
        have hM := c_X9_well X  M x3 _ h
        refine q_s0 (s1 := List.reverse [.int x3] ++ .ref (ad X 85) :: []) rfl ?_
        refine r_callVi (pc := 83) (k := 85) (As := [.int x3]) (st := []) C 1 (by decide) (ce85 _) rfl aw157 aw158 hM aw156 aw159 aw5 yd_X9_well ⟨rfl, rfl⟩ ⟨Nat.le_of_ble_eq_true rfl, Nat.le_of_ble_eq_true rfl⟩ rfl (Nat.le_of_ble_eq_true rfl) dX9_row_83 (fun r3 M2 h => ?_)
        exact r_iret (pc := 86) C dX9_row_86 h
      · have h := h.2 c1
        refine r_aload_n (pc := 62) C 0 dX9_row_62 rfl ?_
        refine r_get (pc := 63) (k := 85) (j := 5) (Cn := RX9) (T := TX9) (N := 21) C (by decide) (ce85 _) rfl iaX9 (by decide) aw108 rfl rfl dX9_row_63 ?_
        refine r_bipush (pc := 66) (v := 40) C dX9_row_66 (by decide) ?_
        refine r_iload_n (pc := 68) C 1 dX9_row_68 rfl ?_
        refine r_imul (pc := 69) C dX9_row_69 ?_
        refine r_iload (pc := 70) C 3 dX9_row_70 rfl ?_
        refine r_iadd (pc := 72) C dX9_row_72 ?_
        refine r_iconst (pc := 73) (v := 0) C dX9_row_73 (by decide) ?_
        obtain ⟨g4, h⟩ := h
        refine q_iast (pc := 74) (k := 90) (n := 320) (j := (Int32.toNatClampNeg ((40 * x1) + x4))) C (by decide) (ce90) g4 rfl dX9_row_74 ?_
        refine r_topM (fun M5 eM5 => ?_)
        replace h := h M5 eM5
        obtain ⟨v6, ev6⟩ : ∃ z : Int32, z = x4 + 1 := ⟨_, rfl⟩
        replace h := h v6 ev6
        refine r_iinc (pc := 75) (v := v6) (lv2 := [(4, .int v6), (0, .ref (ad X 85)), (1, .int x1), (3, .int x3)]) C 3 dX9_row_75 rfl (by rw [ev6]; rfl) (by decide) rfl ?_
        refine r_goto (pc := 78) (tgt := 55) C dX9_row_78 (by decide) ?_
        refine r_sub (lv2 := [(0, .ref (ad X 85)), (1, .int x1), (3, .int x3), (4, .int v6)]) [1, 2, 3, 0] rfl ?_
        exact ih _ _ _ _ h
  unfold w_X9_row at h
  refine r_iload_n (pc := 0) C 1 dX9_row_0 rfl ?_
  have hM := c_X9_isRow X  M x1 _ h
  refine q_s0 (s1 := List.reverse [.int x1] ++ []) rfl ?_
  refine r_callSi (pc := 1) (As := [.int x1]) (st := []) C 1 hM aw143 aw144 aw145 aw5 yd_X9_isRow ⟨rfl, rfl⟩ ⟨Nat.le_of_ble_eq_true rfl, Nat.le_of_ble_eq_true rfl⟩ rfl (Nat.le_of_ble_eq_true rfl) dX9_row_1 (fun r2 M1 h => ?_)
  refine r_if_eq (pc := 4) (tgt := 25) C dX9_row_4 (by decide) (fun c3 => ?_) (fun c3 => ?_)
  · have h := h.1 c3
    refine r_ldc (pc := 25) C aw142 dX9_row_25 ?_
    exact r_iret (pc := 27) C dX9_row_27 h
  · have h := h.2 c3
    refine r_iload_n (pc := 7) C 2 dX9_row_7 rfl ?_
    refine r_i2l (pc := 8) C dX9_row_8 ?_
    refine r_lconst (pc := 9) (v := 0) C dX9_row_9 (by decide) ?_
    refine r_ldc2 (pc := 10) C aw141 dX9_row_10 ?_
    have hM := c_X9_in X  M1 (Int32.toInt64 x2) 0 2 _ h
    refine q_s0 (s1 := List.reverse [.long (Int32.toInt64 x2), .long 0, .long 2] ++ []) rfl ?_
    refine r_callSi (pc := 13) (As := [.long (Int32.toInt64 x2), .long 0, .long 2]) (st := []) C 3 hM aw147 aw148 aw149 aw5 yd_X9_in ⟨rfl, rfl⟩ ⟨Nat.le_of_ble_eq_true rfl, Nat.le_of_ble_eq_true rfl⟩ rfl (Nat.le_of_ble_eq_true rfl) dX9_row_13 (fun r5 M4 h => ?_)
    refine r_if_eq (pc := 16) (tgt := 25) C dX9_row_16 (by decide) (fun c6 => ?_) (fun c6 => ?_)
    · have h := h.1 c6
      refine r_ldc (pc := 25) C aw142 dX9_row_25 ?_
      exact r_iret (pc := 27) C dX9_row_27 h
    · have h := h.2 c6
      refine r_iload_n (pc := 19) C 3 dX9_row_19 rfl ?_
      refine r_bipush (pc := 20) (v := 40) C dX9_row_20 (by decide) ?_
      refine r_icmp_le (pc := 22) (tgt := 28) C dX9_row_22 (by decide) (fun c7 => ?_) (fun c7 => ?_)
      · have h := h.1 c7
        refine r_iload_n (pc := 28) C 3 dX9_row_28 rfl ?_
        refine r_if_ge (pc := 29) (tgt := 38) C dX9_row_29 (by decide) (fun c8 => ?_) (fun c8 => ?_)
        · have h := h.1 c8
          refine r_aload_n (pc := 38) C 0 dX9_row_38 rfl ?_
          refine r_get (pc := 39) (k := 85) (j := 3) (Cn := RX9) (T := TX9) (N := 21) C (by decide) (ce85 _) rfl iaX9 (by decide) aw106 rfl rfl dX9_row_39 ?_
          refine r_iload_n (pc := 42) C 1 dX9_row_42 rfl ?_
          refine r_iload_n (pc := 43) C 2 dX9_row_43 rfl ?_
          obtain ⟨g9, h⟩ := h
          refine q_iast (pc := 44) (k := 88) (n := 8) (j := (Int32.toNatClampNeg x1)) C (by decide) (ce88) g9 rfl dX9_row_44 ?_
          refine r_topM (fun M10 eM10 => ?_)
          replace h := h M10 eM10
          refine r_aload_n (pc := 45) C 0 dX9_row_45 rfl ?_
          refine r_get (pc := 46) (k := 85) (j := 4) (Cn := RX9) (T := TX9) (N := 21) C (by decide) (ce85 _) rfl iaX9 (by decide) aw107 rfl rfl dX9_row_46 ?_
          refine r_iload_n (pc := 49) C 1 dX9_row_49 rfl ?_
          refine r_iload_n (pc := 50) C 3 dX9_row_50 rfl ?_
          obtain ⟨g11, h⟩ := h
          refine q_iast (pc := 51) (k := 89) (n := 8) (j := (Int32.toNatClampNeg x1)) C (by decide) (ce89) g11 rfl dX9_row_51 ?_
          refine r_topM (fun M12 eM12 => ?_)
          replace h := h M12 eM12
          refine r_iconst (pc := 52) (v := 0) C dX9_row_52 (by decide) ?_
          refine r_istore (pc := 53) (lv2 := [(4, .int 0), (0, .ref (ad X 85)), (1, .int x1), (2, .int x2), (3, .int x3)]) C dX9_row_53 (by decide) rfl ?_
          obtain ⟨n13, h⟩ := h
          refine r_sub (lv2 := [(0, .ref (ad X 85)), (1, .int x1), (3, .int x3), (4, .int 0)]) [1, 2, 4, 0] rfl ?_
          exact hL55  _ _ _ _ _ h
        · have h := h.2 c8
          refine r_aload_n (pc := 32) C 0 dX9_row_32 rfl ?_
          refine r_iconst (pc := 33) (v := 4) C dX9_row_33 (by decide) ?_
          have hM := c_X9_find X  M4 4 _ h
          refine q_s0 (s1 := List.reverse [.int 4] ++ .ref (ad X 85) :: []) rfl ?_
          refine r_callVi (pc := 34) (k := 85) (As := [.int 4]) (st := []) C 1 (by decide) (ce85 _) rfl aw151 aw152 hM aw150 aw153 aw5 yd_X9_find ⟨rfl, rfl⟩ ⟨Nat.le_of_ble_eq_true rfl, Nat.le_of_ble_eq_true rfl⟩ rfl (Nat.le_of_ble_eq_true rfl) dX9_row_34 (fun r15 M14 h => ?_)
          exact r_iret (pc := 37) C dX9_row_37 h
      · have h := h.2 c7
        refine r_ldc (pc := 25) C aw142 dX9_row_25 ?_
        exact r_iret (pc := 27) C dX9_row_27 h
theorem yd_X9_narrow : yX9_narrow.cls ≠ "java/lang/invoke/MethodHandle" ∧ yX9_narrow.cls ≠ "java/lang/invoke/VarHandle" ∧ (parseMethodDescriptor yX9_narrow.desc).map (fun d => d.parameters.length) = some 2 := by decide +kernel
def w_X9_narrow  (M : Mem) (x0 : Int32) (x1 : Int32) (Q : Int32 → Mem → Prop) : Prop :=
  ((¬ x1 = 0) → (((¬ x1 = 1) → (Q x0 M)) ∧ ((x1 = 1) → (Q ((Int32.toInt16 x0).toInt32) M)))) ∧ ((x1 = 0) → (Q ((Int32.toInt8 x0).toInt32) M))
abbrev rm_X9_narrow : Room := { frames := 3, cells := 0, slots := 0, locals := 60 }
set_option maxHeartbeats 4000000 in
set_option maxRecDepth 100000 in
theorem c_X9_narrow (X : Cx)  (M : Mem) (x0 : Int32) (x1 : Int32) (Q : Int32 → Mem → Prop) (h : w_X9_narrow  M x0 x1 Q) : Ct yX9_narrow cX9_narrow 2 (some .int) rm_X9_narrow X M [.int x0, .int x1] (Qi X Q) := by
  refine ct_of (own := RX9) (lv := [(0, .int x0), (1, .int x1)]) rfl (by decide) (Nat.le_of_ble_eq_true rfl) rfl ?_
  intro K C
  unfold w_X9_narrow at h
  refine r_iload_n (pc := 0) C 1 dX9_narrow_0 rfl ?_
  refine r_if_ne (pc := 1) (tgt := 9) C dX9_narrow_1 (by decide) (fun c1 => ?_) (fun c1 => ?_)
  · have h := h.1 c1
    refine r_iload_n (pc := 9) C 1 dX9_narrow_9 rfl ?_
    refine r_iconst (pc := 10) (v := 1) C dX9_narrow_10 (by decide) ?_
    refine r_icmp_ne (pc := 11) (tgt := 19) C dX9_narrow_11 (by decide) (fun c2 => ?_) (fun c2 => ?_)
    · have h := h.1 c2
      refine r_iload_n (pc := 19) C 0 dX9_narrow_19 rfl ?_
      exact r_iret (pc := 20) C dX9_narrow_20 h
    · have h := h.2 c2
      refine r_iload_n (pc := 14) C 0 dX9_narrow_14 rfl ?_
      refine r_i2s (pc := 15) C dX9_narrow_15 ?_
      refine r_goto (pc := 16) (tgt := 20) C dX9_narrow_16 (by decide) ?_
      exact r_iret (pc := 20) C dX9_narrow_20 h
  · have h := h.2 c1
    refine r_iload_n (pc := 4) C 0 dX9_narrow_4 rfl ?_
    refine r_i2b (pc := 5) C dX9_narrow_5 ?_
    refine r_goto (pc := 6) (tgt := 20) C dX9_narrow_6 (by decide) ?_
    exact r_iret (pc := 20) C dX9_narrow_20 h
theorem yd_X9_set : yX9_set.cls ≠ "java/lang/invoke/MethodHandle" ∧ yX9_set.cls ≠ "java/lang/invoke/VarHandle" ∧ (parseMethodDescriptor yX9_set.desc).map (fun d => d.parameters.length) = some 3 := by decide +kernel
def w_X9_set  (M : Mem) (x1 : Int32) (x2 : Int32) (x3 : Int32) (Q : Int32 → Mem → Prop) : Prop :=
  w_X9_isRow  M x1 (fun r2 M1 => ((¬ r2 = 0) → (vp_in x1 8 ∧ (((0 ≤ (M1 89 (Int32.toNatClampNeg x1))) → (vp_in x1 8 ∧ (w_X9_in  M1 (Int32.toInt64 x2) 0 (Int32.toInt64 ((M1 89 (Int32.toNatClampNeg x1)) - 1)) (fun r8 M7 => ((¬ r8 = 0) → (vp_in x1 8 ∧ (w_X9_narrow  M7 x3 (M7 88 (Int32.toNatClampNeg x1)) (fun r12 M11 => vp_in ((40 * x1) + x2) 320 ∧ (∀ M14 : Mem, M14 = ms M11 90 (Int32.toNatClampNeg ((40 * x1) + x2)) r12 → (∀ v15 : Int32, v15 = ((40 * x1) + x2) → (vp_in v15 320 ∧ (w_X9_well  M14 (M14 90 (Int32.toNatClampNeg v15)) (fun r18 M17 => Q r18 M17))))))))) ∧ ((r8 = 0) → (w_X9_find  M7 2 (fun r20 M19 => Q r20 M19))))))) ∧ ((¬ 0 ≤ (M1 89 (Int32.toNatClampNeg x1))) → (w_X9_find  M1 1 (fun r22 M21 => Q r22 M21)))))) ∧ ((r2 = 0) → (Q (-1000001) M1)))
abbrev rm_X9_set : Room := { frames := 9, cells := 0, slots := 0, locals := 180 }
set_option maxHeartbeats 4000000 in
set_option maxRecDepth 100000 in
theorem c_X9_set (X : Cx)  (M : Mem) (x1 : Int32) (x2 : Int32) (x3 : Int32) (Q : Int32 → Mem → Prop) (h : w_X9_set  M x1 x2 x3 Q) : Ct yX9_set cX9_set 4 (some .int) rm_X9_set X M [.ref (ad X 85), .int x1, .int x2, .int x3] (Qi X Q) := by
  refine ct_of (own := RX9) (lv := [(0, .ref (ad X 85)), (1, .int x1), (2, .int x2), (3, .int x3)]) rfl (by decide) (Nat.le_of_ble_eq_true rfl) rfl ?_
  intro K C
  unfold w_X9_set at h
  refine r_iload_n (pc := 0) C 1 dX9_set_0 rfl ?_
  have hM := c_X9_isRow X  M x1 _ h
  refine q_s0 (s1 := List.reverse [.int x1] ++ []) rfl ?_
  refine r_callSi (pc := 1) (As := [.int x1]) (st := []) C 1 hM aw143 aw144 aw145 aw5 yd_X9_isRow ⟨rfl, rfl⟩ ⟨Nat.le_of_ble_eq_true rfl, Nat.le_of_ble_eq_true rfl⟩ rfl (Nat.le_of_ble_eq_true rfl) dX9_set_1 (fun r2 M1 h => ?_)
  refine r_if_ne (pc := 4) (tgt := 10) C dX9_set_4 (by decide) (fun c3 => ?_) (fun c3 => ?_)
  · have h := h.1 c3
    refine r_aload_n (pc := 10) C 0 dX9_set_10 rfl ?_
    refine r_get (pc := 11) (k := 85) (j := 4) (Cn := RX9) (T := TX9) (N := 21) C (by decide) (ce85 _) rfl iaX9 (by decide) aw107 rfl rfl dX9_set_11 ?_
    refine r_iload_n (pc := 14) C 1 dX9_set_14 rfl ?_
    obtain ⟨g4, h⟩ := h
    refine q_iald (pc := 15) (k := 89) (n := 8) (j := (Int32.toNatClampNeg x1)) C (by decide) (ce89 _) g4 rfl dX9_set_15 ?_
    refine r_if_ge (pc := 16) (tgt := 25) C dX9_set_16 (by decide) (fun c5 => ?_) (fun c5 => ?_)
    · have h := h.1 c5
      refine r_iload_n (pc := 25) C 2 dX9_set_25 rfl ?_
      refine r_i2l (pc := 26) C dX9_set_26 ?_
      refine r_lconst (pc := 27) (v := 0) C dX9_set_27 (by decide) ?_
      refine r_aload_n (pc := 28) C 0 dX9_set_28 rfl ?_
      refine r_get (pc := 29) (k := 85) (j := 4) (Cn := RX9) (T := TX9) (N := 21) C (by decide) (ce85 _) rfl iaX9 (by decide) aw107 rfl rfl dX9_set_29 ?_
      refine r_iload_n (pc := 32) C 1 dX9_set_32 rfl ?_
      obtain ⟨g6, h⟩ := h
      refine q_iald (pc := 33) (k := 89) (n := 8) (j := (Int32.toNatClampNeg x1)) C (by decide) (ce89 _) g6 rfl dX9_set_33 ?_
      refine r_iconst (pc := 34) (v := 1) C dX9_set_34 (by decide) ?_
      refine r_isub (pc := 35) C dX9_set_35 ?_
      refine r_i2l (pc := 36) C dX9_set_36 ?_
      have hM := c_X9_in X  M1 (Int32.toInt64 x2) 0 (Int32.toInt64 ((M1 89 (Int32.toNatClampNeg x1)) - 1)) _ h
      refine q_s0 (s1 := List.reverse [.long (Int32.toInt64 x2), .long 0, .long (Int32.toInt64 ((M1 89 (Int32.toNatClampNeg x1)) - 1))] ++ []) rfl ?_
      refine r_callSi (pc := 37) (As := [.long (Int32.toInt64 x2), .long 0, .long (Int32.toInt64 ((M1 89 (Int32.toNatClampNeg x1)) - 1))]) (st := []) C 3 hM aw147 aw148 aw149 aw5 yd_X9_in ⟨rfl, rfl⟩ ⟨Nat.le_of_ble_eq_true rfl, Nat.le_of_ble_eq_true rfl⟩ rfl (Nat.le_of_ble_eq_true rfl) dX9_set_37 (fun r8 M7 h => ?_)
      refine r_if_ne (pc := 40) (tgt := 49) C dX9_set_40 (by decide) (fun c9 => ?_) (fun c9 => ?_)
      · have h := h.1 c9
        refine r_aload_n (pc := 49) C 0 dX9_set_49 rfl ?_
        refine r_get (pc := 50) (k := 85) (j := 5) (Cn := RX9) (T := TX9) (N := 21) C (by decide) (ce85 _) rfl iaX9 (by decide) aw108 rfl rfl dX9_set_50 ?_
        refine r_bipush (pc := 53) (v := 40) C dX9_set_53 (by decide) ?_
        refine r_iload_n (pc := 55) C 1 dX9_set_55 rfl ?_
        refine r_imul (pc := 56) C dX9_set_56 ?_
        refine r_iload_n (pc := 57) C 2 dX9_set_57 rfl ?_
        refine r_iadd (pc := 58) C dX9_set_58 ?_
        refine r_iload_n (pc := 59) C 3 dX9_set_59 rfl ?_
        refine r_aload_n (pc := 60) C 0 dX9_set_60 rfl ?_
        refine r_get (pc := 61) (k := 85) (j := 3) (Cn := RX9) (T := TX9) (N := 21) C (by decide) (ce85 _) rfl iaX9 (by decide) aw106 rfl rfl dX9_set_61 ?_
        refine r_iload_n (pc := 64) C 1 dX9_set_64 rfl ?_
        obtain ⟨g10, h⟩ := h
        refine q_iald (pc := 65) (k := 88) (n := 8) (j := (Int32.toNatClampNeg x1)) C (by decide) (ce88 _) g10 rfl dX9_set_65 ?_
        have hM := c_X9_narrow X  M7 x3 (M7 88 (Int32.toNatClampNeg x1)) _ h
        refine q_s0 (s1 := List.reverse [.int x3, .int (M7 88 (Int32.toNatClampNeg x1))] ++ [.int ((40 * x1) + x2), .ref (ad X 90)]) rfl ?_
        refine r_callSi (pc := 66) (As := [.int x3, .int (M7 88 (Int32.toNatClampNeg x1))]) (st := [.int ((40 * x1) + x2), .ref (ad X 90)]) C 2 hM aw178 aw179 aw180 aw5 yd_X9_narrow ⟨rfl, rfl⟩ ⟨Nat.le_of_ble_eq_true rfl, Nat.le_of_ble_eq_true rfl⟩ rfl (Nat.le_of_ble_eq_true rfl) dX9_set_66 (fun r12 M11 h => ?_)
        obtain ⟨g13, h⟩ := h
        refine q_iast (pc := 69) (k := 90) (n := 320) (j := (Int32.toNatClampNeg ((40 * x1) + x2))) C (by decide) (ce90) g13 rfl dX9_set_69 ?_
        refine r_topM (fun M14 eM14 => ?_)
        replace h := h M14 eM14
        refine r_aload_n (pc := 70) C 0 dX9_set_70 rfl ?_
        refine r_aload_n (pc := 71) C 0 dX9_set_71 rfl ?_
        refine r_get (pc := 72) (k := 85) (j := 5) (Cn := RX9) (T := TX9) (N := 21) C (by decide) (ce85 _) rfl iaX9 (by decide) aw108 rfl rfl dX9_set_72 ?_
        refine r_bipush (pc := 75) (v := 40) C dX9_set_75 (by decide) ?_
        refine r_iload_n (pc := 77) C 1 dX9_set_77 rfl ?_
        refine r_imul (pc := 78) C dX9_set_78 ?_
        refine r_iload_n (pc := 79) C 2 dX9_set_79 rfl ?_
        refine r_iadd (pc := 80) C dX9_set_80 ?_
        refine r_topi (fun v15 ev15 => ?_)
        replace h := h v15 ev15
        obtain ⟨g16, h⟩ := h
        refine q_iald (pc := 81) (k := 90) (n := 320) (j := (Int32.toNatClampNeg v15)) C (by decide) (ce90 _) g16 rfl dX9_set_81 ?_
        have hM := c_X9_well X  M14 (M14 90 (Int32.toNatClampNeg v15)) _ h
        refine q_s0 (s1 := List.reverse [.int (M14 90 (Int32.toNatClampNeg v15))] ++ .ref (ad X 85) :: []) rfl ?_
        refine r_callVi (pc := 82) (k := 85) (As := [.int (M14 90 (Int32.toNatClampNeg v15))]) (st := []) C 1 (by decide) (ce85 _) rfl aw157 aw158 hM aw156 aw159 aw5 yd_X9_well ⟨rfl, rfl⟩ ⟨Nat.le_of_ble_eq_true rfl, Nat.le_of_ble_eq_true rfl⟩ rfl (Nat.le_of_ble_eq_true rfl) dX9_set_82 (fun r18 M17 h => ?_)
        exact r_iret (pc := 85) C dX9_set_85 h
      · have h := h.2 c9
        refine r_aload_n (pc := 43) C 0 dX9_set_43 rfl ?_
        refine r_iconst (pc := 44) (v := 2) C dX9_set_44 (by decide) ?_
        have hM := c_X9_find X  M7 2 _ h
        refine q_s0 (s1 := List.reverse [.int 2] ++ .ref (ad X 85) :: []) rfl ?_
        refine r_callVi (pc := 45) (k := 85) (As := [.int 2]) (st := []) C 1 (by decide) (ce85 _) rfl aw151 aw152 hM aw150 aw153 aw5 yd_X9_find ⟨rfl, rfl⟩ ⟨Nat.le_of_ble_eq_true rfl, Nat.le_of_ble_eq_true rfl⟩ rfl (Nat.le_of_ble_eq_true rfl) dX9_set_45 (fun r20 M19 h => ?_)
        exact r_iret (pc := 48) C dX9_set_48 h
    · have h := h.2 c5
      refine r_aload_n (pc := 19) C 0 dX9_set_19 rfl ?_
      refine r_iconst (pc := 20) (v := 1) C dX9_set_20 (by decide) ?_
      have hM := c_X9_find X  M1 1 _ h
      refine q_s0 (s1 := List.reverse [.int 1] ++ .ref (ad X 85) :: []) rfl ?_
      refine r_callVi (pc := 21) (k := 85) (As := [.int 1]) (st := []) C 1 (by decide) (ce85 _) rfl aw151 aw152 hM aw150 aw153 aw5 yd_X9_find ⟨rfl, rfl⟩ ⟨Nat.le_of_ble_eq_true rfl, Nat.le_of_ble_eq_true rfl⟩ rfl (Nat.le_of_ble_eq_true rfl) dX9_set_21 (fun r22 M21 h => ?_)
      exact r_iret (pc := 24) C dX9_set_24 h
  · have h := h.2 c3
    refine r_ldc (pc := 7) C aw142 dX9_set_7 ?_
    exact r_iret (pc := 9) C dX9_set_9 h
theorem yd_X9_isSpan : yX9_isSpan.cls ≠ "java/lang/invoke/MethodHandle" ∧ yX9_isSpan.cls ≠ "java/lang/invoke/VarHandle" ∧ (parseMethodDescriptor yX9_isSpan.desc).map (fun d => d.parameters.length) = some 3 := by decide +kernel
def w_X9_isSpan  (M : Mem) (x1 : Int32) (x2 : Int32) (x3 : Int32) (Q : Int32 → Mem → Prop) : Prop :=
  ((x2 < 0) → (Q 0 M)) ∧ ((¬ x2 < 0) → (((x3 < 0) → (Q 0 M)) ∧ ((¬ x3 < 0) → (vp_in x1 8 ∧ (((0 < (lg_cmp ((Int32.toInt64 x2) + (Int32.toInt64 x3)) (Int32.toInt64 (M 89 (Int32.toNatClampNeg x1))))) → (Q 0 M)) ∧ ((¬ 0 < (lg_cmp ((Int32.toInt64 x2) + (Int32.toInt64 x3)) (Int32.toInt64 (M 89 (Int32.toNatClampNeg x1))))) → (Q 1 M)))))))
abbrev rm_X9_isSpan : Room := { frames := 3, cells := 0, slots := 0, locals := 60 }
set_option maxHeartbeats 4000000 in
set_option maxRecDepth 100000 in
theorem c_X9_isSpan (X : Cx)  (M : Mem) (x1 : Int32) (x2 : Int32) (x3 : Int32) (Q : Int32 → Mem → Prop) (h : w_X9_isSpan  M x1 x2 x3 Q) : Ct yX9_isSpan cX9_isSpan 4 (some .boolean) rm_X9_isSpan X M [.ref (ad X 85), .int x1, .int x2, .int x3] (Qi X Q) := by
  refine ct_of (own := RX9) (lv := [(0, .ref (ad X 85)), (1, .int x1), (2, .int x2), (3, .int x3)]) rfl (by decide) (Nat.le_of_ble_eq_true rfl) rfl ?_
  intro K C
  unfold w_X9_isSpan at h
  refine r_iload_n (pc := 0) C 2 dX9_isSpan_0 rfl ?_
  refine r_if_lt (pc := 1) (tgt := 28) C dX9_isSpan_1 (by decide) (fun c1 => ?_) (fun c1 => ?_)
  · have h := h.1 c1
    refine r_iconst (pc := 28) (v := 0) C dX9_isSpan_28 (by decide) ?_
    exact r_zret (pc := 29) C dX9_isSpan_29 (Or.inl rfl) h
  · have h := h.2 c1
    refine r_iload_n (pc := 4) C 3 dX9_isSpan_4 rfl ?_
    refine r_if_lt (pc := 5) (tgt := 28) C dX9_isSpan_5 (by decide) (fun c2 => ?_) (fun c2 => ?_)
    · have h := h.1 c2
      refine r_iconst (pc := 28) (v := 0) C dX9_isSpan_28 (by decide) ?_
      exact r_zret (pc := 29) C dX9_isSpan_29 (Or.inl rfl) h
    · have h := h.2 c2
      refine r_iload_n (pc := 8) C 2 dX9_isSpan_8 rfl ?_
      refine r_i2l (pc := 9) C dX9_isSpan_9 ?_
      refine r_iload_n (pc := 10) C 3 dX9_isSpan_10 rfl ?_
      refine r_i2l (pc := 11) C dX9_isSpan_11 ?_
      refine r_ladd (pc := 12) C dX9_isSpan_12 ?_
      refine r_aload_n (pc := 13) C 0 dX9_isSpan_13 rfl ?_
      refine r_get (pc := 14) (k := 85) (j := 4) (Cn := RX9) (T := TX9) (N := 21) C (by decide) (ce85 _) rfl iaX9 (by decide) aw107 rfl rfl dX9_isSpan_14 ?_
      refine r_iload_n (pc := 17) C 1 dX9_isSpan_17 rfl ?_
      obtain ⟨g3, h⟩ := h
      refine q_iald (pc := 18) (k := 89) (n := 8) (j := (Int32.toNatClampNeg x1)) C (by decide) (ce89 _) g3 rfl dX9_isSpan_18 ?_
      refine r_i2l (pc := 19) C dX9_isSpan_19 ?_
      refine r_lcmp (pc := 20) C dX9_isSpan_20 ?_
      refine r_if_gt (pc := 21) (tgt := 28) C dX9_isSpan_21 (by decide) (fun c4 => ?_) (fun c4 => ?_)
      · have h := h.1 c4
        refine r_iconst (pc := 28) (v := 0) C dX9_isSpan_28 (by decide) ?_
        exact r_zret (pc := 29) C dX9_isSpan_29 (Or.inl rfl) h
      · have h := h.2 c4
        refine r_iconst (pc := 24) (v := 1) C dX9_isSpan_24 (by decide) ?_
        refine r_goto (pc := 25) (tgt := 29) C dX9_isSpan_25 (by decide) ?_
        exact r_zret (pc := 29) C dX9_isSpan_29 (Or.inr rfl) h
theorem yd_X9_copy : yX9_copy.cls ≠ "java/lang/invoke/MethodHandle" ∧ yX9_copy.cls ≠ "java/lang/invoke/VarHandle" ∧ (parseMethodDescriptor yX9_copy.desc).map (fun d => d.parameters.length) = some 5 := by decide +kernel
def wJ_X9_copy_131  (Q : Int32 → Mem → Prop) (R107 : Mem → Int32 → Int32 → Int32 → Int32 → Int32 → Int32 → Int32 → Prop) (M : Mem) (x1 : Int32) (x2 : Int32) (x3 : Int32) (x4 : Int32) (x5 : Int32) (x6 : Int32) (x7 : Int32) (s0 : Int32) : Prop :=
  ∀ v1 : Int32, v1 = (((40 * x1) + x2) + s0) → (vp_in v1 320 ∧ (∀ v3 : Int32, v3 = (M 90 (Int32.toNatClampNeg v1)) → (vp_in (((40 * x3) + x4) + s0) 320 ∧ (∀ M5 : Mem, M5 = ms M 90 (Int32.toNatClampNeg (((40 * x3) + x4) + s0)) v3 → (∀ v6 : Int32, v6 = x7 + 1 → (R107 M5 x1 x2 x3 x4 x5 x6 v6))))))
def wB_X9_copy_107  (Q : Int32 → Mem → Prop)  (R107 : Mem → Int32 → Int32 → Int32 → Int32 → Int32 → Int32 → Int32 → Prop) (M : Mem) (x1 : Int32) (x2 : Int32) (x3 : Int32) (x4 : Int32) (x5 : Int32) (x6 : Int32) (x7 : Int32) : Prop :=
  ((x5 ≤ x7) → (w_X9_well  M x5 (fun r3 M2 => Q r3 M2))) ∧ ((¬ x5 ≤ x7) → (((x6 = 0) → (wJ_X9_copy_131  Q R107 M x1 x2 x3 x4 x5 x6 x7 x7)) ∧ ((¬ x6 = 0) → (wJ_X9_copy_131  Q R107 M x1 x2 x3 x4 x5 x6 x7 ((x5 - 1) - x7)))))
def wL_X9_copy_107  (Q : Int32 → Mem → Prop)  : Nat → Mem → Int32 → Int32 → Int32 → Int32 → Int32 → Int32 → Int32 → Prop
  | 0 => fun _ _ _ _ _ _ _ _ => False
  | n + 1 => fun M x1 x2 x3 x4 x5 x6 x7 => wB_X9_copy_107  Q  (wL_X9_copy_107  Q  n) M x1 x2 x3 x4 x5 x6 x7
theorem wL_X9_copy_107_s  {Q : Int32 → Mem → Prop}  {n : Nat} {M : Mem} {x1 : Int32} {x2 : Int32} {x3 : Int32} {x4 : Int32} {x5 : Int32} {x6 : Int32} {x7 : Int32} (h : wL_X9_copy_107  Q  (n + 1) M x1 x2 x3 x4 x5 x6 x7) : wB_X9_copy_107  Q  (wL_X9_copy_107  Q  n) M x1 x2 x3 x4 x5 x6 x7 := h
def wJ_X9_copy_102  (Q : Int32 → Mem → Prop)  (M : Mem) (x1 : Int32) (x2 : Int32) (x3 : Int32) (x4 : Int32) (x5 : Int32) (s0 : Int32) : Prop :=
  ∃ n1 : Nat, wL_X9_copy_107  Q  n1 M x1 x2 x3 x4 x5 s0 0
def w_X9_copy  (M : Mem) (x1 : Int32) (x2 : Int32) (x3 : Int32) (x4 : Int32) (x5 : Int32) (Q : Int32 → Mem → Prop) : Prop :=
  w_X9_isRow  M x1 (fun r2 M1 => ((r2 = 0) → (Q (-1000001) M1)) ∧ ((¬ r2 = 0) → (w_X9_isRow  M1 x3 (fun r5 M4 => ((¬ r5 = 0) → (vp_in x1 8 ∧ ((((M4 89 (Int32.toNatClampNeg x1)) < 0) → (w_X9_find  M4 1 (fun r10 M9 => Q r10 M9))) ∧ ((¬ (M4 89 (Int32.toNatClampNeg x1)) < 0) → (vp_in x3 8 ∧ (((0 ≤ (M4 89 (Int32.toNatClampNeg x3))) → (vp_in x1 8 ∧ (vp_in x3 8 ∧ ((((M4 88 (Int32.toNatClampNeg x1)) = (M4 88 (Int32.toNatClampNeg x3))) → (w_X9_isSpan  M4 x1 x2 x5 (fun r17 M16 => ((r17 = 0) → (w_X9_find  M16 2 (fun r20 M19 => Q r20 M19))) ∧ ((¬ r17 = 0) → (w_X9_isSpan  M16 x3 x4 x5 (fun r22 M21 => ((¬ r22 = 0) → (((x4 ≤ x2) → (wJ_X9_copy_102  Q  M21 x1 x2 x3 x4 x5 0)) ∧ ((¬ x4 ≤ x2) → (wJ_X9_copy_102  Q  M21 x1 x2 x3 x4 x5 1)))) ∧ ((r22 = 0) → (w_X9_find  M21 2 (fun r26 M25 => Q r26 M25))))))))) ∧ ((¬ (M4 88 (Int32.toNatClampNeg x1)) = (M4 88 (Int32.toNatClampNeg x3))) → (w_X9_find  M4 5 (fun r28 M27 => Q r28 M27))))))) ∧ ((¬ 0 ≤ (M4 89 (Int32.toNatClampNeg x3))) → (w_X9_find  M4 1 (fun r30 M29 => Q r30 M29))))))))) ∧ ((r5 = 0) → (Q (-1000001) M4))))))
abbrev rm_X9_copy : Room := { frames := 9, cells := 0, slots := 0, locals := 180 }
set_option maxHeartbeats 4000000 in
set_option maxRecDepth 100000 in
theorem c_X9_copy (X : Cx)  (M : Mem) (x1 : Int32) (x2 : Int32) (x3 : Int32) (x4 : Int32) (x5 : Int32) (Q : Int32 → Mem → Prop) (h : w_X9_copy  M x1 x2 x3 x4 x5 Q) : Ct yX9_copy cX9_copy 9 (some .int) rm_X9_copy X M [.ref (ad X 85), .int x1, .int x2, .int x3, .int x4, .int x5] (Qi X Q) := by
  refine ct_of (own := RX9) (lv := [(0, .ref (ad X 85)), (1, .int x1), (2, .int x2), (3, .int x3), (4, .int x4), (5, .int x5)]) rfl (by decide) (Nat.le_of_ble_eq_true rfl) rfl ?_
  intro K C
  have hJ131 : ∀ (R107 : Mem → Int32 → Int32 → Int32 → Int32 → Int32 → Int32 → Int32 → Prop) (hR107 : ∀ (M : Mem) (x1 : Int32) (x2 : Int32) (x3 : Int32) (x4 : Int32) (x5 : Int32) (x6 : Int32) (x7 : Int32), R107 M x1 x2 x3 x4 x5 x6 x7 → WX K X 9 (Qi X Q) M 107 [(0, .ref (ad X 85)), (1, .int x1), (2, .int x2), (3, .int x3), (4, .int x4), (5, .int x5), (6, .int x6), (7, .int x7)] []) (M : Mem) (x1 : Int32) (x2 : Int32) (x3 : Int32) (x4 : Int32) (x5 : Int32) (x6 : Int32) (x7 : Int32) (s0 : Int32), wJ_X9_copy_131  Q R107 M x1 x2 x3 x4 x5 x6 x7 s0 → WX K X 9 (Qi X Q) M 131 [(0, .ref (ad X 85)), (1, .int x1), (2, .int x2), (3, .int x3), (4, .int x4), (5, .int x5), (6, .int x6), (7, .int x7)] [.int s0] := by
    intro R107 hR107 M x1 x2 x3 x4 x5 x6 x7 s0 h
    unfold wJ_X9_copy_131 at h
    refine r_istore (pc := 131) (lv2 := [(8, .int s0), (0, .ref (ad X 85)), (1, .int x1), (2, .int x2), (3, .int x3), (4, .int x4), (5, .int x5), (6, .int x6), (7, .int x7)]) C dX9_copy_131 (by decide) rfl ?_
    refine r_aload_n (pc := 133) C 1 dX9_copy_133 rfl ?_
    refine r_get (pc := 134) (k := 85) (j := 5) (Cn := RX9) (T := TX9) (N := 21) C (by decide) (ce85 _) rfl iaX9 (by decide) aw108 rfl rfl dX9_copy_134 ?_
    refine r_bipush (pc := 137) (v := 40) C dX9_copy_137 (by decide) ?_
    refine r_iload_n (pc := 139) C 4 dX9_copy_139 rfl ?_
    refine r_imul (pc := 140) C dX9_copy_140 ?_
    refine r_iload (pc := 141) C 5 dX9_copy_141 rfl ?_
    refine r_iadd (pc := 143) C dX9_copy_143 ?_
    refine r_iload (pc := 144) C 0 dX9_copy_144 rfl ?_
    refine r_iadd (pc := 146) C dX9_copy_146 ?_
    refine r_aload_n (pc := 147) C 1 dX9_copy_147 rfl ?_
    refine r_get (pc := 148) (k := 85) (j := 5) (Cn := RX9) (T := TX9) (N := 21) C (by decide) (ce85 _) rfl iaX9 (by decide) aw108 rfl rfl dX9_copy_148 ?_
    refine r_bipush (pc := 151) (v := 40) C dX9_copy_151 (by decide) ?_
    refine r_iload_n (pc := 153) C 2 dX9_copy_153 rfl ?_
    refine r_imul (pc := 154) C dX9_copy_154 ?_
    refine r_iload_n (pc := 155) C 3 dX9_copy_155 rfl ?_
    refine r_iadd (pc := 156) C dX9_copy_156 ?_
    refine r_iload (pc := 157) C 0 dX9_copy_157 rfl ?_
    refine r_iadd (pc := 159) C dX9_copy_159 ?_
    refine r_topi (fun v1 ev1 => ?_)
    replace h := h v1 ev1
    obtain ⟨g2, h⟩ := h
    refine q_iald (pc := 160) (k := 90) (n := 320) (j := (Int32.toNatClampNeg v1)) C (by decide) (ce90 _) g2 rfl dX9_copy_160 ?_
    refine r_topi (fun v3 ev3 => ?_)
    replace h := h v3 ev3
    obtain ⟨g4, h⟩ := h
    refine q_iast (pc := 161) (k := 90) (n := 320) (j := (Int32.toNatClampNeg (((40 * x3) + x4) + s0))) C (by decide) (ce90) g4 rfl dX9_copy_161 ?_
    refine r_topM (fun M5 eM5 => ?_)
    replace h := h M5 eM5
    obtain ⟨v6, ev6⟩ : ∃ z : Int32, z = x7 + 1 := ⟨_, rfl⟩
    replace h := h v6 ev6
    refine r_iinc (pc := 162) (v := v6) (lv2 := [(7, .int v6), (8, .int s0), (0, .ref (ad X 85)), (1, .int x1), (2, .int x2), (3, .int x3), (4, .int x4), (5, .int x5), (6, .int x6)]) C 8 dX9_copy_162 rfl (by rw [ev6]; rfl) (by decide) rfl ?_
    refine r_goto (pc := 165) (tgt := 107) C dX9_copy_165 (by decide) ?_
    refine r_sub (lv2 := [(0, .ref (ad X 85)), (1, .int x1), (2, .int x2), (3, .int x3), (4, .int x4), (5, .int x5), (6, .int x6), (7, .int v6)]) [2, 3, 4, 5, 6, 7, 8, 0] rfl ?_
    exact hR107 _ _ _ _ _ _ _ _ h
  have hL107 : ∀  (n : Nat) (M : Mem) (x1 : Int32) (x2 : Int32) (x3 : Int32) (x4 : Int32) (x5 : Int32) (x6 : Int32) (x7 : Int32), wL_X9_copy_107  Q  n M x1 x2 x3 x4 x5 x6 x7 → WX K X 9 (Qi X Q) M 107 [(0, .ref (ad X 85)), (1, .int x1), (2, .int x2), (3, .int x3), (4, .int x4), (5, .int x5), (6, .int x6), (7, .int x7)] [] := by
    intro  n
    induction n with
    | zero => intro M x1 x2 x3 x4 x5 x6 x7 h; exact absurd h id
    | succ n ih =>
      intro M x1 x2 x3 x4 x5 x6 x7 h
      replace h := wL_X9_copy_107_s h
      unfold wB_X9_copy_107 at h
      refine r_iload (pc := 107) C 7 dX9_copy_107 rfl ?_
      refine r_iload (pc := 109) C 5 dX9_copy_109 rfl ?_
      refine r_icmp_ge (pc := 111) (tgt := 168) C dX9_copy_111 (by decide) (fun c1 => ?_) (fun c1 => ?_)
      · have h := h.1 c1
        refine r_aload_n (pc := 168) C 0 dX9_copy_168 rfl ?_
        refine r_iload (pc := 169) C 5 dX9_copy_169 rfl ?_
        have hM := c_X9_well X  M x5 _ h
        refine q_s0 (s1 := List.reverse [.int x5] ++ .ref (ad X 85) :: []) rfl ?_
        refine r_callVi (pc := 171) (k := 85) (As := [.int x5]) (st := []) C 1 (by decide) (ce85 _) rfl aw157 aw158 hM aw156 aw159 aw5 yd_X9_well ⟨rfl, rfl⟩ ⟨Nat.le_of_ble_eq_true rfl, Nat.le_of_ble_eq_true rfl⟩ rfl (Nat.le_of_ble_eq_true rfl) dX9_copy_171 (fun r3 M2 h => ?_)
        exact r_iret (pc := 174) C dX9_copy_174 h
      · have h := h.2 c1
        refine r_iload (pc := 114) C 6 dX9_copy_114 rfl ?_
        refine r_if_eq (pc := 116) (tgt := 129) C dX9_copy_116 (by decide) (fun c4 => ?_) (fun c4 => ?_)
        · have h := h.1 c4
          refine r_iload (pc := 129) C 7 dX9_copy_129 rfl ?_
          refine r_sub (lv2 := [(0, .ref (ad X 85)), (1, .int x1), (2, .int x2), (3, .int x3), (4, .int x4), (5, .int x5), (6, .int x6), (7, .int x7)]) [0, 1, 2, 3, 4, 5, 6, 7] rfl ?_
          exact hJ131 _ ih _ _ _ _ _ _ _ _ _ h
        · have h := h.2 c4
          refine r_iload (pc := 119) C 5 dX9_copy_119 rfl ?_
          refine r_iconst (pc := 121) (v := 1) C dX9_copy_121 (by decide) ?_
          refine r_isub (pc := 122) C dX9_copy_122 ?_
          refine r_iload (pc := 123) C 7 dX9_copy_123 rfl ?_
          refine r_isub (pc := 125) C dX9_copy_125 ?_
          refine r_goto (pc := 126) (tgt := 131) C dX9_copy_126 (by decide) ?_
          refine r_sub (lv2 := [(0, .ref (ad X 85)), (1, .int x1), (2, .int x2), (3, .int x3), (4, .int x4), (5, .int x5), (6, .int x6), (7, .int x7)]) [0, 1, 2, 3, 4, 5, 6, 7] rfl ?_
          exact hJ131 _ ih _ _ _ _ _ _ _ _ _ h
  have hJ102 : ∀  (M : Mem) (x1 : Int32) (x2 : Int32) (x3 : Int32) (x4 : Int32) (x5 : Int32) (s0 : Int32), wJ_X9_copy_102  Q  M x1 x2 x3 x4 x5 s0 → WX K X 9 (Qi X Q) M 102 [(0, .ref (ad X 85)), (1, .int x1), (2, .int x2), (3, .int x3), (4, .int x4), (5, .int x5)] [.int s0] := by
    intro  M x1 x2 x3 x4 x5 s0 h
    unfold wJ_X9_copy_102 at h
    refine r_istore (pc := 102) (lv2 := [(6, .int s0), (0, .ref (ad X 85)), (1, .int x1), (2, .int x2), (3, .int x3), (4, .int x4), (5, .int x5)]) C dX9_copy_102 (by decide) rfl ?_
    refine r_iconst (pc := 104) (v := 0) C dX9_copy_104 (by decide) ?_
    refine r_istore (pc := 105) (lv2 := [(7, .int 0), (6, .int s0), (0, .ref (ad X 85)), (1, .int x1), (2, .int x2), (3, .int x3), (4, .int x4), (5, .int x5)]) C dX9_copy_105 (by decide) rfl ?_
    obtain ⟨n1, h⟩ := h
    refine r_sub (lv2 := [(0, .ref (ad X 85)), (1, .int x1), (2, .int x2), (3, .int x3), (4, .int x4), (5, .int x5), (6, .int s0), (7, .int 0)]) [2, 3, 4, 5, 6, 7, 1, 0] rfl ?_
    exact hL107  _ _ _ _ _ _ _ _ _ h
  unfold w_X9_copy at h
  refine r_iload_n (pc := 0) C 1 dX9_copy_0 rfl ?_
  have hM := c_X9_isRow X  M x1 _ h
  refine q_s0 (s1 := List.reverse [.int x1] ++ []) rfl ?_
  refine r_callSi (pc := 1) (As := [.int x1]) (st := []) C 1 hM aw143 aw144 aw145 aw5 yd_X9_isRow ⟨rfl, rfl⟩ ⟨Nat.le_of_ble_eq_true rfl, Nat.le_of_ble_eq_true rfl⟩ rfl (Nat.le_of_ble_eq_true rfl) dX9_copy_1 (fun r2 M1 h => ?_)
  refine r_if_eq (pc := 4) (tgt := 14) C dX9_copy_4 (by decide) (fun c3 => ?_) (fun c3 => ?_)
  · have h := h.1 c3
    refine r_ldc (pc := 14) C aw142 dX9_copy_14 ?_
    exact r_iret (pc := 16) C dX9_copy_16 h
  · have h := h.2 c3
    refine r_iload_n (pc := 7) C 3 dX9_copy_7 rfl ?_
    have hM := c_X9_isRow X  M1 x3 _ h
    refine q_s0 (s1 := List.reverse [.int x3] ++ []) rfl ?_
    refine r_callSi (pc := 8) (As := [.int x3]) (st := []) C 1 hM aw143 aw144 aw145 aw5 yd_X9_isRow ⟨rfl, rfl⟩ ⟨Nat.le_of_ble_eq_true rfl, Nat.le_of_ble_eq_true rfl⟩ rfl (Nat.le_of_ble_eq_true rfl) dX9_copy_8 (fun r5 M4 h => ?_)
    refine r_if_ne (pc := 11) (tgt := 17) C dX9_copy_11 (by decide) (fun c6 => ?_) (fun c6 => ?_)
    · have h := h.1 c6
      refine r_aload_n (pc := 17) C 0 dX9_copy_17 rfl ?_
      refine r_get (pc := 18) (k := 85) (j := 4) (Cn := RX9) (T := TX9) (N := 21) C (by decide) (ce85 _) rfl iaX9 (by decide) aw107 rfl rfl dX9_copy_18 ?_
      refine r_iload_n (pc := 21) C 1 dX9_copy_21 rfl ?_
      obtain ⟨g7, h⟩ := h
      refine q_iald (pc := 22) (k := 89) (n := 8) (j := (Int32.toNatClampNeg x1)) C (by decide) (ce89 _) g7 rfl dX9_copy_22 ?_
      refine r_if_lt (pc := 23) (tgt := 35) C dX9_copy_23 (by decide) (fun c8 => ?_) (fun c8 => ?_)
      · have h := h.1 c8
        refine r_aload_n (pc := 35) C 0 dX9_copy_35 rfl ?_
        refine r_iconst (pc := 36) (v := 1) C dX9_copy_36 (by decide) ?_
        have hM := c_X9_find X  M4 1 _ h
        refine q_s0 (s1 := List.reverse [.int 1] ++ .ref (ad X 85) :: []) rfl ?_
        refine r_callVi (pc := 37) (k := 85) (As := [.int 1]) (st := []) C 1 (by decide) (ce85 _) rfl aw151 aw152 hM aw150 aw153 aw5 yd_X9_find ⟨rfl, rfl⟩ ⟨Nat.le_of_ble_eq_true rfl, Nat.le_of_ble_eq_true rfl⟩ rfl (Nat.le_of_ble_eq_true rfl) dX9_copy_37 (fun r10 M9 h => ?_)
        exact r_iret (pc := 40) C dX9_copy_40 h
      · have h := h.2 c8
        refine r_aload_n (pc := 26) C 0 dX9_copy_26 rfl ?_
        refine r_get (pc := 27) (k := 85) (j := 4) (Cn := RX9) (T := TX9) (N := 21) C (by decide) (ce85 _) rfl iaX9 (by decide) aw107 rfl rfl dX9_copy_27 ?_
        refine r_iload_n (pc := 30) C 3 dX9_copy_30 rfl ?_
        obtain ⟨g11, h⟩ := h
        refine q_iald (pc := 31) (k := 89) (n := 8) (j := (Int32.toNatClampNeg x3)) C (by decide) (ce89 _) g11 rfl dX9_copy_31 ?_
        refine r_if_ge (pc := 32) (tgt := 41) C dX9_copy_32 (by decide) (fun c12 => ?_) (fun c12 => ?_)
        · have h := h.1 c12
          refine r_aload_n (pc := 41) C 0 dX9_copy_41 rfl ?_
          refine r_get (pc := 42) (k := 85) (j := 3) (Cn := RX9) (T := TX9) (N := 21) C (by decide) (ce85 _) rfl iaX9 (by decide) aw106 rfl rfl dX9_copy_42 ?_
          refine r_iload_n (pc := 45) C 1 dX9_copy_45 rfl ?_
          obtain ⟨g13, h⟩ := h
          refine q_iald (pc := 46) (k := 88) (n := 8) (j := (Int32.toNatClampNeg x1)) C (by decide) (ce88 _) g13 rfl dX9_copy_46 ?_
          refine r_aload_n (pc := 47) C 0 dX9_copy_47 rfl ?_
          refine r_get (pc := 48) (k := 85) (j := 3) (Cn := RX9) (T := TX9) (N := 21) C (by decide) (ce85 _) rfl iaX9 (by decide) aw106 rfl rfl dX9_copy_48 ?_
          refine r_iload_n (pc := 51) C 3 dX9_copy_51 rfl ?_
          obtain ⟨g14, h⟩ := h
          refine q_iald (pc := 52) (k := 88) (n := 8) (j := (Int32.toNatClampNeg x3)) C (by decide) (ce88 _) g14 rfl dX9_copy_52 ?_
          refine r_icmp_eq (pc := 53) (tgt := 62) C dX9_copy_53 (by decide) (fun c15 => ?_) (fun c15 => ?_)
          · have h := h.1 c15
            refine r_aload_n (pc := 62) C 0 dX9_copy_62 rfl ?_
            refine r_iload_n (pc := 63) C 1 dX9_copy_63 rfl ?_
            refine r_iload_n (pc := 64) C 2 dX9_copy_64 rfl ?_
            refine r_iload (pc := 65) C 5 dX9_copy_65 rfl ?_
            have hM := c_X9_isSpan X  M4 x1 x2 x5 _ h
            refine q_s0 (s1 := List.reverse [.int x1, .int x2, .int x5] ++ .ref (ad X 85) :: []) rfl ?_
            refine r_callVi (pc := 67) (k := 85) (As := [.int x1, .int x2, .int x5]) (st := []) C 3 (by decide) (ce85 _) rfl aw194 aw195 hM aw193 aw196 aw5 yd_X9_isSpan ⟨rfl, rfl⟩ ⟨Nat.le_of_ble_eq_true rfl, Nat.le_of_ble_eq_true rfl⟩ rfl (Nat.le_of_ble_eq_true rfl) dX9_copy_67 (fun r17 M16 h => ?_)
            refine r_if_eq (pc := 70) (tgt := 85) C dX9_copy_70 (by decide) (fun c18 => ?_) (fun c18 => ?_)
            · have h := h.1 c18
              refine r_aload_n (pc := 85) C 0 dX9_copy_85 rfl ?_
              refine r_iconst (pc := 86) (v := 2) C dX9_copy_86 (by decide) ?_
              have hM := c_X9_find X  M16 2 _ h
              refine q_s0 (s1 := List.reverse [.int 2] ++ .ref (ad X 85) :: []) rfl ?_
              refine r_callVi (pc := 87) (k := 85) (As := [.int 2]) (st := []) C 1 (by decide) (ce85 _) rfl aw151 aw152 hM aw150 aw153 aw5 yd_X9_find ⟨rfl, rfl⟩ ⟨Nat.le_of_ble_eq_true rfl, Nat.le_of_ble_eq_true rfl⟩ rfl (Nat.le_of_ble_eq_true rfl) dX9_copy_87 (fun r20 M19 h => ?_)
              exact r_iret (pc := 90) C dX9_copy_90 h
            · have h := h.2 c18
              refine r_aload_n (pc := 73) C 0 dX9_copy_73 rfl ?_
              refine r_iload_n (pc := 74) C 3 dX9_copy_74 rfl ?_
              refine r_iload (pc := 75) C 4 dX9_copy_75 rfl ?_
              refine r_iload (pc := 77) C 5 dX9_copy_77 rfl ?_
              have hM := c_X9_isSpan X  M16 x3 x4 x5 _ h
              refine q_s0 (s1 := List.reverse [.int x3, .int x4, .int x5] ++ .ref (ad X 85) :: []) rfl ?_
              refine r_callVi (pc := 79) (k := 85) (As := [.int x3, .int x4, .int x5]) (st := []) C 3 (by decide) (ce85 _) rfl aw194 aw195 hM aw193 aw196 aw5 yd_X9_isSpan ⟨rfl, rfl⟩ ⟨Nat.le_of_ble_eq_true rfl, Nat.le_of_ble_eq_true rfl⟩ rfl (Nat.le_of_ble_eq_true rfl) dX9_copy_79 (fun r22 M21 h => ?_)
              refine r_if_ne (pc := 82) (tgt := 91) C dX9_copy_82 (by decide) (fun c23 => ?_) (fun c23 => ?_)
              · have h := h.1 c23
                refine r_iload_n (pc := 91) C 2 dX9_copy_91 rfl ?_
                refine r_iload (pc := 92) C 4 dX9_copy_92 rfl ?_
                refine r_icmp_ge (pc := 94) (tgt := 101) C dX9_copy_94 (by decide) (fun c24 => ?_) (fun c24 => ?_)
                · have h := h.1 c24
                  refine r_iconst (pc := 101) (v := 0) C dX9_copy_101 (by decide) ?_
                  refine r_sub (lv2 := [(0, .ref (ad X 85)), (1, .int x1), (2, .int x2), (3, .int x3), (4, .int x4), (5, .int x5)]) [0, 1, 2, 3, 4, 5] rfl ?_
                  exact hJ102  _ _ _ _ _ _ _ h
                · have h := h.2 c24
                  refine r_iconst (pc := 97) (v := 1) C dX9_copy_97 (by decide) ?_
                  refine r_goto (pc := 98) (tgt := 102) C dX9_copy_98 (by decide) ?_
                  refine r_sub (lv2 := [(0, .ref (ad X 85)), (1, .int x1), (2, .int x2), (3, .int x3), (4, .int x4), (5, .int x5)]) [0, 1, 2, 3, 4, 5] rfl ?_
                  exact hJ102  _ _ _ _ _ _ _ h
              · have h := h.2 c23
                refine r_aload_n (pc := 85) C 0 dX9_copy_85 rfl ?_
                refine r_iconst (pc := 86) (v := 2) C dX9_copy_86 (by decide) ?_
                have hM := c_X9_find X  M21 2 _ h
                refine q_s0 (s1 := List.reverse [.int 2] ++ .ref (ad X 85) :: []) rfl ?_
                refine r_callVi (pc := 87) (k := 85) (As := [.int 2]) (st := []) C 1 (by decide) (ce85 _) rfl aw151 aw152 hM aw150 aw153 aw5 yd_X9_find ⟨rfl, rfl⟩ ⟨Nat.le_of_ble_eq_true rfl, Nat.le_of_ble_eq_true rfl⟩ rfl (Nat.le_of_ble_eq_true rfl) dX9_copy_87 (fun r26 M25 h => ?_)
                exact r_iret (pc := 90) C dX9_copy_90 h
          · have h := h.2 c15
            refine r_aload_n (pc := 56) C 0 dX9_copy_56 rfl ?_
            refine r_iconst (pc := 57) (v := 5) C dX9_copy_57 (by decide) ?_
            have hM := c_X9_find X  M4 5 _ h
            refine q_s0 (s1 := List.reverse [.int 5] ++ .ref (ad X 85) :: []) rfl ?_
            refine r_callVi (pc := 58) (k := 85) (As := [.int 5]) (st := []) C 1 (by decide) (ce85 _) rfl aw151 aw152 hM aw150 aw153 aw5 yd_X9_find ⟨rfl, rfl⟩ ⟨Nat.le_of_ble_eq_true rfl, Nat.le_of_ble_eq_true rfl⟩ rfl (Nat.le_of_ble_eq_true rfl) dX9_copy_58 (fun r28 M27 h => ?_)
            exact r_iret (pc := 61) C dX9_copy_61 h
        · have h := h.2 c12
          refine r_aload_n (pc := 35) C 0 dX9_copy_35 rfl ?_
          refine r_iconst (pc := 36) (v := 1) C dX9_copy_36 (by decide) ?_
          have hM := c_X9_find X  M4 1 _ h
          refine q_s0 (s1 := List.reverse [.int 1] ++ .ref (ad X 85) :: []) rfl ?_
          refine r_callVi (pc := 37) (k := 85) (As := [.int 1]) (st := []) C 1 (by decide) (ce85 _) rfl aw151 aw152 hM aw150 aw153 aw5 yd_X9_find ⟨rfl, rfl⟩ ⟨Nat.le_of_ble_eq_true rfl, Nat.le_of_ble_eq_true rfl⟩ rfl (Nat.le_of_ble_eq_true rfl) dX9_copy_37 (fun r30 M29 h => ?_)
          exact r_iret (pc := 40) C dX9_copy_40 h
    · have h := h.2 c6
      refine r_ldc (pc := 14) C aw142 dX9_copy_14 ?_
      exact r_iret (pc := 16) C dX9_copy_16 h
theorem yd_X9_drop : yX9_drop.cls ≠ "java/lang/invoke/MethodHandle" ∧ yX9_drop.cls ≠ "java/lang/invoke/VarHandle" ∧ (parseMethodDescriptor yX9_drop.desc).map (fun d => d.parameters.length) = some 1 := by decide +kernel
def w_X9_drop  (M : Mem) (x1 : Int32) (Q : Int32 → Mem → Prop) : Prop :=
  w_X9_isRow  M x1 (fun r2 M1 => ((¬ r2 = 0) → (vp_in x1 8 ∧ (((0 ≤ (M1 89 (Int32.toNatClampNeg x1))) → (vp_in x1 8 ∧ (∀ v7 : Int32, v7 = (M1 89 (Int32.toNatClampNeg x1)) → (vp_in x1 8 ∧ (∀ M9 : Mem, M9 = ms M1 89 (Int32.toNatClampNeg x1) (-1) → (w_X9_well  M9 v7 (fun r11 M10 => Q r11 M10))))))) ∧ ((¬ 0 ≤ (M1 89 (Int32.toNatClampNeg x1))) → (w_X9_find  M1 1 (fun r13 M12 => Q r13 M12)))))) ∧ ((r2 = 0) → (Q (-1000001) M1)))
abbrev rm_X9_drop : Room := { frames := 9, cells := 0, slots := 0, locals := 180 }
set_option maxHeartbeats 4000000 in
set_option maxRecDepth 100000 in
theorem c_X9_drop (X : Cx)  (M : Mem) (x1 : Int32) (Q : Int32 → Mem → Prop) (h : w_X9_drop  M x1 Q) : Ct yX9_drop cX9_drop 3 (some .int) rm_X9_drop X M [.ref (ad X 85), .int x1] (Qi X Q) := by
  refine ct_of (own := RX9) (lv := [(0, .ref (ad X 85)), (1, .int x1)]) rfl (by decide) (Nat.le_of_ble_eq_true rfl) rfl ?_
  intro K C
  unfold w_X9_drop at h
  refine r_iload_n (pc := 0) C 1 dX9_drop_0 rfl ?_
  have hM := c_X9_isRow X  M x1 _ h
  refine q_s0 (s1 := List.reverse [.int x1] ++ []) rfl ?_
  refine r_callSi (pc := 1) (As := [.int x1]) (st := []) C 1 hM aw143 aw144 aw145 aw5 yd_X9_isRow ⟨rfl, rfl⟩ ⟨Nat.le_of_ble_eq_true rfl, Nat.le_of_ble_eq_true rfl⟩ rfl (Nat.le_of_ble_eq_true rfl) dX9_drop_1 (fun r2 M1 h => ?_)
  refine r_if_ne (pc := 4) (tgt := 10) C dX9_drop_4 (by decide) (fun c3 => ?_) (fun c3 => ?_)
  · have h := h.1 c3
    refine r_aload_n (pc := 10) C 0 dX9_drop_10 rfl ?_
    refine r_get (pc := 11) (k := 85) (j := 4) (Cn := RX9) (T := TX9) (N := 21) C (by decide) (ce85 _) rfl iaX9 (by decide) aw107 rfl rfl dX9_drop_11 ?_
    refine r_iload_n (pc := 14) C 1 dX9_drop_14 rfl ?_
    obtain ⟨g4, h⟩ := h
    refine q_iald (pc := 15) (k := 89) (n := 8) (j := (Int32.toNatClampNeg x1)) C (by decide) (ce89 _) g4 rfl dX9_drop_15 ?_
    refine r_if_ge (pc := 16) (tgt := 25) C dX9_drop_16 (by decide) (fun c5 => ?_) (fun c5 => ?_)
    · have h := h.1 c5
      refine r_aload_n (pc := 25) C 0 dX9_drop_25 rfl ?_
      refine r_get (pc := 26) (k := 85) (j := 4) (Cn := RX9) (T := TX9) (N := 21) C (by decide) (ce85 _) rfl iaX9 (by decide) aw107 rfl rfl dX9_drop_26 ?_
      refine r_iload_n (pc := 29) C 1 dX9_drop_29 rfl ?_
      obtain ⟨g6, h⟩ := h
      refine q_iald (pc := 30) (k := 89) (n := 8) (j := (Int32.toNatClampNeg x1)) C (by decide) (ce89 _) g6 rfl dX9_drop_30 ?_
      refine r_topi (fun v7 ev7 => ?_)
      replace h := h v7 ev7
      refine r_istore_n (pc := 31) (lv2 := [(2, .int v7), (0, .ref (ad X 85)), (1, .int x1)]) C dX9_drop_31 (by decide) rfl ?_
      refine r_aload_n (pc := 32) C 1 dX9_drop_32 rfl ?_
      refine r_get (pc := 33) (k := 85) (j := 4) (Cn := RX9) (T := TX9) (N := 21) C (by decide) (ce85 _) rfl iaX9 (by decide) aw107 rfl rfl dX9_drop_33 ?_
      refine r_iload_n (pc := 36) C 2 dX9_drop_36 rfl ?_
      refine r_iconst (pc := 37) (v := (-1)) C dX9_drop_37 (by decide) ?_
      obtain ⟨g8, h⟩ := h
      refine q_iast (pc := 38) (k := 89) (n := 8) (j := (Int32.toNatClampNeg x1)) C (by decide) (ce89) g8 rfl dX9_drop_38 ?_
      refine r_topM (fun M9 eM9 => ?_)
      replace h := h M9 eM9
      refine r_aload_n (pc := 39) C 1 dX9_drop_39 rfl ?_
      refine r_iload_n (pc := 40) C 0 dX9_drop_40 rfl ?_
      have hM := c_X9_well X  M9 v7 _ h
      refine q_s0 (s1 := List.reverse [.int v7] ++ .ref (ad X 85) :: []) rfl ?_
      refine r_callVi (pc := 41) (k := 85) (As := [.int v7]) (st := []) C 1 (by decide) (ce85 _) rfl aw157 aw158 hM aw156 aw159 aw5 yd_X9_well ⟨rfl, rfl⟩ ⟨Nat.le_of_ble_eq_true rfl, Nat.le_of_ble_eq_true rfl⟩ rfl (Nat.le_of_ble_eq_true rfl) dX9_drop_41 (fun r11 M10 h => ?_)
      exact r_iret (pc := 44) C dX9_drop_44 h
    · have h := h.2 c5
      refine r_aload_n (pc := 19) C 0 dX9_drop_19 rfl ?_
      refine r_iconst (pc := 20) (v := 1) C dX9_drop_20 (by decide) ?_
      have hM := c_X9_find X  M1 1 _ h
      refine q_s0 (s1 := List.reverse [.int 1] ++ .ref (ad X 85) :: []) rfl ?_
      refine r_callVi (pc := 21) (k := 85) (As := [.int 1]) (st := []) C 1 (by decide) (ce85 _) rfl aw151 aw152 hM aw150 aw153 aw5 yd_X9_find ⟨rfl, rfl⟩ ⟨Nat.le_of_ble_eq_true rfl, Nat.le_of_ble_eq_true rfl⟩ rfl (Nat.le_of_ble_eq_true rfl) dX9_drop_21 (fun r13 M12 h => ?_)
      exact r_iret (pc := 24) C dX9_drop_24 h
  · have h := h.2 c3
    refine r_ldc (pc := 7) C aw142 dX9_drop_7 ?_
    exact r_iret (pc := 9) C dX9_drop_9 h
theorem yd_X9_feed : yX9_feed.cls ≠ "java/lang/invoke/MethodHandle" ∧ yX9_feed.cls ≠ "java/lang/invoke/VarHandle" ∧ (parseMethodDescriptor yX9_feed.desc).map (fun d => d.parameters.length) = some 1 := by decide +kernel
def w_X9_feed  (M : Mem) (x1 : Int32) (Q : Int32 → Mem → Prop) : Prop :=
  w_X9_in  M (Int32.toInt64 x1) 0 255 (fun r2 M1 => ((¬ r2 = 0) → (((¬ (M1 85 7) = 120) → (vp_in (M1 85 7) 120 ∧ (∀ M6 : Mem, M6 = ms M1 91 (Int32.toNatClampNeg (M1 85 7)) x1 → (∀ v7 : Int32, v7 = ((M6 85 7) + 1) → (∀ M8 : Mem, M8 = ms M6 85 7 v7 → (Q (M8 85 7) M8)))))) ∧ (((M1 85 7) = 120) → (Q (-1000003) M1)))) ∧ ((r2 = 0) → (Q (-1000001) M1)))
abbrev rm_X9_feed : Room := { frames := 6, cells := 0, slots := 0, locals := 120 }
set_option maxHeartbeats 4000000 in
set_option maxRecDepth 100000 in
theorem c_X9_feed (X : Cx)  (M : Mem) (x1 : Int32) (Q : Int32 → Mem → Prop) (h : w_X9_feed  M x1 Q) : Ct yX9_feed cX9_feed 2 (some .int) rm_X9_feed X M [.ref (ad X 85), .int x1] (Qi X Q) := by
  refine ct_of (own := RX9) (lv := [(0, .ref (ad X 85)), (1, .int x1)]) rfl (by decide) (Nat.le_of_ble_eq_true rfl) rfl ?_
  intro K C
  unfold w_X9_feed at h
  refine r_iload_n (pc := 0) C 1 dX9_feed_0 rfl ?_
  refine r_i2l (pc := 1) C dX9_feed_1 ?_
  refine r_lconst (pc := 2) (v := 0) C dX9_feed_2 (by decide) ?_
  refine r_ldc2 (pc := 3) C aw221 dX9_feed_3 ?_
  have hM := c_X9_in X  M (Int32.toInt64 x1) 0 255 _ h
  refine q_s0 (s1 := List.reverse [.long (Int32.toInt64 x1), .long 0, .long 255] ++ []) rfl ?_
  refine r_callSi (pc := 6) (As := [.long (Int32.toInt64 x1), .long 0, .long 255]) (st := []) C 3 hM aw147 aw148 aw149 aw5 yd_X9_in ⟨rfl, rfl⟩ ⟨Nat.le_of_ble_eq_true rfl, Nat.le_of_ble_eq_true rfl⟩ rfl (Nat.le_of_ble_eq_true rfl) dX9_feed_6 (fun r2 M1 h => ?_)
  refine r_if_ne (pc := 9) (tgt := 15) C dX9_feed_9 (by decide) (fun c3 => ?_) (fun c3 => ?_)
  · have h := h.1 c3
    refine r_aload_n (pc := 15) C 0 dX9_feed_15 rfl ?_
    refine r_get (pc := 16) (k := 85) (j := 7) (Cn := RX9) (T := TX9) (N := 21) C (by decide) (ce85 _) rfl iaX9 (by decide) aw222 rfl rfl dX9_feed_16 ?_
    refine r_bipush (pc := 19) (v := 120) C dX9_feed_19 (by decide) ?_
    refine r_icmp_ne (pc := 21) (tgt := 27) C dX9_feed_21 (by decide) (fun c4 => ?_) (fun c4 => ?_)
    · have h := h.1 c4
      refine r_aload_n (pc := 27) C 0 dX9_feed_27 rfl ?_
      refine r_get (pc := 28) (k := 85) (j := 6) (Cn := RX9) (T := TX9) (N := 21) C (by decide) (ce85 _) rfl iaX9 (by decide) aw109 rfl rfl dX9_feed_28 ?_
      refine r_aload_n (pc := 31) C 0 dX9_feed_31 rfl ?_
      refine r_get (pc := 32) (k := 85) (j := 7) (Cn := RX9) (T := TX9) (N := 21) C (by decide) (ce85 _) rfl iaX9 (by decide) aw222 rfl rfl dX9_feed_32 ?_
      refine r_iload_n (pc := 35) C 1 dX9_feed_35 rfl ?_
      obtain ⟨g5, h⟩ := h
      refine q_iast (pc := 36) (k := 91) (n := 120) (j := (Int32.toNatClampNeg (M1 85 7))) C (by decide) (ce91) g5 rfl dX9_feed_36 ?_
      refine r_topM (fun M6 eM6 => ?_)
      replace h := h M6 eM6
      refine r_aload_n (pc := 37) C 0 dX9_feed_37 rfl ?_
      refine r_dup (pc := 38) C dX9_feed_38 rfl ?_
      refine r_get (pc := 39) (k := 85) (j := 7) (Cn := RX9) (T := TX9) (N := 21) C (by decide) (ce85 _) rfl iaX9 (by decide) aw222 rfl rfl dX9_feed_39 ?_
      refine r_iconst (pc := 42) (v := 1) C dX9_feed_42 (by decide) ?_
      refine r_iadd (pc := 43) C dX9_feed_43 ?_
      refine r_topi (fun v7 ev7 => ?_)
      replace h := h v7 ev7
      refine r_put (pc := 44) (k := 85) (j := 7) (Cn := RX9) (T := TX9) (N := 21) (host := "") C (by decide) (ce85 _) rfl iaX9 (by decide) (ce85 _) tyX9_ok nmX9 aw222 rfl rfl (tyX9_ok 7 (by decide)) (Nat.le_of_ble_eq_true rfl) dX9_feed_44 ?_
      refine r_topM (fun M8 eM8 => ?_)
      replace h := h M8 eM8
      refine r_aload_n (pc := 47) C 0 dX9_feed_47 rfl ?_
      refine r_get (pc := 48) (k := 85) (j := 7) (Cn := RX9) (T := TX9) (N := 21) C (by decide) (ce85 _) rfl iaX9 (by decide) aw222 rfl rfl dX9_feed_48 ?_
      exact r_iret (pc := 51) C dX9_feed_51 h
    · have h := h.2 c4
      refine r_ldc (pc := 24) C aw223 dX9_feed_24 ?_
      exact r_iret (pc := 26) C dX9_feed_26 h
  · have h := h.2 c3
    refine r_ldc (pc := 12) C aw142 dX9_feed_12 ?_
    exact r_iret (pc := 14) C dX9_feed_14 h
theorem yd_X9_isLetter : yX9_isLetter.cls ≠ "java/lang/invoke/MethodHandle" ∧ yX9_isLetter.cls ≠ "java/lang/invoke/VarHandle" ∧ (parseMethodDescriptor yX9_isLetter.desc).map (fun d => d.parameters.length) = some 1 := by decide +kernel
def w_X9_isLetter  (M : Mem) (x1 : Int32) (Q : Int32 → Mem → Prop) : Prop :=
  (((M 85 7) ≤ (M 85 12)) → (Q 0 M)) ∧ ((¬ (M 85 7) ≤ (M 85 12)) → (∀ v2 : Int32, v2 = (M 85 12) → (vp_in v2 120 ∧ (((¬ (M 91 (Int32.toNatClampNeg v2)) = x1) → (Q 0 M)) ∧ (((M 91 (Int32.toNatClampNeg v2)) = x1) → (Q 1 M))))))
abbrev rm_X9_isLetter : Room := { frames := 3, cells := 0, slots := 0, locals := 60 }
set_option maxHeartbeats 4000000 in
set_option maxRecDepth 100000 in
theorem c_X9_isLetter (X : Cx)  (M : Mem) (x1 : Int32) (Q : Int32 → Mem → Prop) (h : w_X9_isLetter  M x1 Q) : Ct yX9_isLetter cX9_isLetter 2 (some .boolean) rm_X9_isLetter X M [.ref (ad X 85), .int x1] (Qi X Q) := by
  refine ct_of (own := RX9) (lv := [(0, .ref (ad X 85)), (1, .int x1)]) rfl (by decide) (Nat.le_of_ble_eq_true rfl) rfl ?_
  intro K C
  unfold w_X9_isLetter at h
  refine r_aload_n (pc := 0) C 0 dX9_isLetter_0 rfl ?_
  refine r_get (pc := 1) (k := 85) (j := 12) (Cn := RX9) (T := TX9) (N := 21) C (by decide) (ce85 _) rfl iaX9 (by decide) aw324 rfl rfl dX9_isLetter_1 ?_
  refine r_aload_n (pc := 4) C 0 dX9_isLetter_4 rfl ?_
  refine r_get (pc := 5) (k := 85) (j := 7) (Cn := RX9) (T := TX9) (N := 21) C (by decide) (ce85 _) rfl iaX9 (by decide) aw222 rfl rfl dX9_isLetter_5 ?_
  refine r_icmp_ge (pc := 8) (tgt := 28) C dX9_isLetter_8 (by decide) (fun c1 => ?_) (fun c1 => ?_)
  · have h := h.1 c1
    refine r_iconst (pc := 28) (v := 0) C dX9_isLetter_28 (by decide) ?_
    exact r_zret (pc := 29) C dX9_isLetter_29 (Or.inl rfl) h
  · have h := h.2 c1
    refine r_aload_n (pc := 11) C 0 dX9_isLetter_11 rfl ?_
    refine r_get (pc := 12) (k := 85) (j := 6) (Cn := RX9) (T := TX9) (N := 21) C (by decide) (ce85 _) rfl iaX9 (by decide) aw109 rfl rfl dX9_isLetter_12 ?_
    refine r_aload_n (pc := 15) C 0 dX9_isLetter_15 rfl ?_
    refine r_get (pc := 16) (k := 85) (j := 12) (Cn := RX9) (T := TX9) (N := 21) C (by decide) (ce85 _) rfl iaX9 (by decide) aw324 rfl rfl dX9_isLetter_16 ?_
    refine r_topi (fun v2 ev2 => ?_)
    replace h := h v2 ev2
    obtain ⟨g3, h⟩ := h
    refine q_iald (pc := 19) (k := 91) (n := 120) (j := (Int32.toNatClampNeg v2)) C (by decide) (ce91 _) g3 rfl dX9_isLetter_19 ?_
    refine r_iload_n (pc := 20) C 1 dX9_isLetter_20 rfl ?_
    refine r_icmp_ne (pc := 21) (tgt := 28) C dX9_isLetter_21 (by decide) (fun c4 => ?_) (fun c4 => ?_)
    · have h := h.1 c4
      refine r_iconst (pc := 28) (v := 0) C dX9_isLetter_28 (by decide) ?_
      exact r_zret (pc := 29) C dX9_isLetter_29 (Or.inl rfl) h
    · have h := h.2 c4
      refine r_iconst (pc := 24) (v := 1) C dX9_isLetter_24 (by decide) ?_
      refine r_goto (pc := 25) (tgt := 29) C dX9_isLetter_25 (by decide) ?_
      exact r_zret (pc := 29) C dX9_isLetter_29 (Or.inr rfl) h
theorem yd_X9_isFigure : yX9_isFigure.cls ≠ "java/lang/invoke/MethodHandle" ∧ yX9_isFigure.cls ≠ "java/lang/invoke/VarHandle" ∧ (parseMethodDescriptor yX9_isFigure.desc).map (fun d => d.parameters.length) = some 1 := by decide +kernel
def w_X9_isFigure  (M : Mem) (x1 : Int32) (Q : Int32 → Mem → Prop) : Prop :=
  (((M 85 7) ≤ x1) → (Q 0 M)) ∧ ((¬ (M 85 7) ≤ x1) → (vp_in x1 120 ∧ (w_X9_in  M (Int32.toInt64 (M 91 (Int32.toNatClampNeg x1))) 48 57 (fun r4 M3 => ((r4 = 0) → (Q 0 M3)) ∧ ((¬ r4 = 0) → (Q 1 M3))))))
abbrev rm_X9_isFigure : Room := { frames := 6, cells := 0, slots := 0, locals := 120 }
set_option maxHeartbeats 4000000 in
set_option maxRecDepth 100000 in
theorem c_X9_isFigure (X : Cx)  (M : Mem) (x1 : Int32) (Q : Int32 → Mem → Prop) (h : w_X9_isFigure  M x1 Q) : Ct yX9_isFigure cX9_isFigure 2 (some .boolean) rm_X9_isFigure X M [.ref (ad X 85), .int x1] (Qi X Q) := by
  refine ct_of (own := RX9) (lv := [(0, .ref (ad X 85)), (1, .int x1)]) rfl (by decide) (Nat.le_of_ble_eq_true rfl) rfl ?_
  intro K C
  unfold w_X9_isFigure at h
  refine r_iload_n (pc := 0) C 1 dX9_isFigure_0 rfl ?_
  refine r_aload_n (pc := 1) C 0 dX9_isFigure_1 rfl ?_
  refine r_get (pc := 2) (k := 85) (j := 7) (Cn := RX9) (T := TX9) (N := 21) C (by decide) (ce85 _) rfl iaX9 (by decide) aw222 rfl rfl dX9_isFigure_2 ?_
  refine r_icmp_ge (pc := 5) (tgt := 31) C dX9_isFigure_5 (by decide) (fun c1 => ?_) (fun c1 => ?_)
  · have h := h.1 c1
    refine r_iconst (pc := 31) (v := 0) C dX9_isFigure_31 (by decide) ?_
    exact r_zret (pc := 32) C dX9_isFigure_32 (Or.inl rfl) h
  · have h := h.2 c1
    refine r_aload_n (pc := 8) C 0 dX9_isFigure_8 rfl ?_
    refine r_get (pc := 9) (k := 85) (j := 6) (Cn := RX9) (T := TX9) (N := 21) C (by decide) (ce85 _) rfl iaX9 (by decide) aw109 rfl rfl dX9_isFigure_9 ?_
    refine r_iload_n (pc := 12) C 1 dX9_isFigure_12 rfl ?_
    obtain ⟨g2, h⟩ := h
    refine q_iald (pc := 13) (k := 91) (n := 120) (j := (Int32.toNatClampNeg x1)) C (by decide) (ce91 _) g2 rfl dX9_isFigure_13 ?_
    refine r_i2l (pc := 14) C dX9_isFigure_14 ?_
    refine r_ldc2 (pc := 15) C aw356 dX9_isFigure_15 ?_
    refine r_ldc2 (pc := 18) C aw357 dX9_isFigure_18 ?_
    have hM := c_X9_in X  M (Int32.toInt64 (M 91 (Int32.toNatClampNeg x1))) 48 57 _ h
    refine q_s0 (s1 := List.reverse [.long (Int32.toInt64 (M 91 (Int32.toNatClampNeg x1))), .long 48, .long 57] ++ []) rfl ?_
    refine r_callSi (pc := 21) (As := [.long (Int32.toInt64 (M 91 (Int32.toNatClampNeg x1))), .long 48, .long 57]) (st := []) C 3 hM aw147 aw148 aw149 aw5 yd_X9_in ⟨rfl, rfl⟩ ⟨Nat.le_of_ble_eq_true rfl, Nat.le_of_ble_eq_true rfl⟩ rfl (Nat.le_of_ble_eq_true rfl) dX9_isFigure_21 (fun r4 M3 h => ?_)
    refine r_if_eq (pc := 24) (tgt := 31) C dX9_isFigure_24 (by decide) (fun c5 => ?_) (fun c5 => ?_)
    · have h := h.1 c5
      refine r_iconst (pc := 31) (v := 0) C dX9_isFigure_31 (by decide) ?_
      exact r_zret (pc := 32) C dX9_isFigure_32 (Or.inl rfl) h
    · have h := h.2 c5
      refine r_iconst (pc := 27) (v := 1) C dX9_isFigure_27 (by decide) ?_
      refine r_goto (pc := 28) (tgt := 32) C dX9_isFigure_28 (by decide) ?_
      exact r_zret (pc := 32) C dX9_isFigure_32 (Or.inr rfl) h
theorem yd_X9_refuse : yX9_refuse.cls ≠ "java/lang/invoke/MethodHandle" ∧ yX9_refuse.cls ≠ "java/lang/invoke/VarHandle" ∧ (parseMethodDescriptor yX9_refuse.desc).map (fun d => d.parameters.length) = some 1 := by decide +kernel
def w_X9_refuse  (M : Mem) (x1 : Int32) (Q : Int32 → Mem → Prop) : Prop :=
  ∀ M1 : Mem, M1 = ms M 85 13 x1 → (Q 0 M1)
abbrev rm_X9_refuse : Room := { frames := 3, cells := 0, slots := 0, locals := 60 }
set_option maxHeartbeats 4000000 in
set_option maxRecDepth 100000 in
theorem c_X9_refuse (X : Cx)  (M : Mem) (x1 : Int32) (Q : Int32 → Mem → Prop) (h : w_X9_refuse  M x1 Q) : Ct yX9_refuse cX9_refuse 2 (some .boolean) rm_X9_refuse X M [.ref (ad X 85), .int x1] (Qi X Q) := by
  refine ct_of (own := RX9) (lv := [(0, .ref (ad X 85)), (1, .int x1)]) rfl (by decide) (Nat.le_of_ble_eq_true rfl) rfl ?_
  intro K C
  unfold w_X9_refuse at h
  refine r_aload_n (pc := 0) C 0 dX9_refuse_0 rfl ?_
  refine r_iload_n (pc := 1) C 1 dX9_refuse_1 rfl ?_
  refine r_put (pc := 2) (k := 85) (j := 13) (Cn := RX9) (T := TX9) (N := 21) (host := "") C (by decide) (ce85 _) rfl iaX9 (by decide) (ce85 _) tyX9_ok nmX9 aw321 rfl rfl (tyX9_ok 13 (by decide)) (Nat.le_of_ble_eq_true rfl) dX9_refuse_2 ?_
  refine r_topM (fun M1 eM1 => ?_)
  replace h := h M1 eM1
  refine r_iconst (pc := 5) (v := 0) C dX9_refuse_5 (by decide) ?_
  exact r_zret (pc := 6) C dX9_refuse_6 (Or.inl rfl) h
theorem yd_X9_sign : yX9_sign.cls ≠ "java/lang/invoke/MethodHandle" ∧ yX9_sign.cls ≠ "java/lang/invoke/VarHandle" ∧ (parseMethodDescriptor yX9_sign.desc).map (fun d => d.parameters.length) = some 1 := by decide +kernel
def w_X9_sign  (M : Mem) (x1 : Int32) (Q : Int32 → Mem → Prop) : Prop :=
  w_X9_isLetter  M x1 (fun r2 M1 => ((¬ r2 = 0) → (∀ v4 : Int32, v4 = ((M1 85 12) + 1) → (∀ M5 : Mem, M5 = ms M1 85 12 v4 → (Q 1 M5)))) ∧ ((r2 = 0) → (w_X9_refuse  M1 1 (fun r7 M6 => vz r7 ∧ Q r7 M6))))
abbrev rm_X9_sign : Room := { frames := 6, cells := 0, slots := 0, locals := 120 }
set_option maxHeartbeats 4000000 in
set_option maxRecDepth 100000 in
theorem c_X9_sign (X : Cx)  (M : Mem) (x1 : Int32) (Q : Int32 → Mem → Prop) (h : w_X9_sign  M x1 Q) : Ct yX9_sign cX9_sign 2 (some .boolean) rm_X9_sign X M [.ref (ad X 85), .int x1] (Qi X Q) := by
  refine ct_of (own := RX9) (lv := [(0, .ref (ad X 85)), (1, .int x1)]) rfl (by decide) (Nat.le_of_ble_eq_true rfl) rfl ?_
  intro K C
  unfold w_X9_sign at h
  refine r_aload_n (pc := 0) C 0 dX9_sign_0 rfl ?_
  refine r_iload_n (pc := 1) C 1 dX9_sign_1 rfl ?_
  have hM := c_X9_isLetter X  M x1 _ h
  refine q_s0 (s1 := List.reverse [.int x1] ++ .ref (ad X 85) :: []) rfl ?_
  refine r_callVi (pc := 2) (k := 85) (As := [.int x1]) (st := []) C 1 (by decide) (ce85 _) rfl aw341 aw342 hM aw340 aw343 aw5 yd_X9_isLetter ⟨rfl, rfl⟩ ⟨Nat.le_of_ble_eq_true rfl, Nat.le_of_ble_eq_true rfl⟩ rfl (Nat.le_of_ble_eq_true rfl) dX9_sign_2 (fun r2 M1 h => ?_)
  refine r_if_ne (pc := 5) (tgt := 14) C dX9_sign_5 (by decide) (fun c3 => ?_) (fun c3 => ?_)
  · have h := h.1 c3
    refine r_aload_n (pc := 14) C 0 dX9_sign_14 rfl ?_
    refine r_dup (pc := 15) C dX9_sign_15 rfl ?_
    refine r_get (pc := 16) (k := 85) (j := 12) (Cn := RX9) (T := TX9) (N := 21) C (by decide) (ce85 _) rfl iaX9 (by decide) aw324 rfl rfl dX9_sign_16 ?_
    refine r_iconst (pc := 19) (v := 1) C dX9_sign_19 (by decide) ?_
    refine r_iadd (pc := 20) C dX9_sign_20 ?_
    refine r_topi (fun v4 ev4 => ?_)
    replace h := h v4 ev4
    refine r_put (pc := 21) (k := 85) (j := 12) (Cn := RX9) (T := TX9) (N := 21) (host := "") C (by decide) (ce85 _) rfl iaX9 (by decide) (ce85 _) tyX9_ok nmX9 aw324 rfl rfl (tyX9_ok 12 (by decide)) (Nat.le_of_ble_eq_true rfl) dX9_sign_21 ?_
    refine r_topM (fun M5 eM5 => ?_)
    replace h := h M5 eM5
    refine r_iconst (pc := 24) (v := 1) C dX9_sign_24 (by decide) ?_
    exact r_zret (pc := 25) C dX9_sign_25 (Or.inr rfl) h
  · have h := h.2 c3
    refine r_aload_n (pc := 8) C 0 dX9_sign_8 rfl ?_
    refine r_iconst (pc := 9) (v := 1) C dX9_sign_9 (by decide) ?_
    have hM := c_X9_refuse X  M1 1 _ h
    refine q_s0 (s1 := List.reverse [.int 1] ++ .ref (ad X 85) :: []) rfl ?_
    refine r_callVi (pc := 10) (k := 85) (As := [.int 1]) (st := []) C 1 (by decide) (ce85 _) rfl aw345 aw346 hM aw344 aw347 aw5 yd_X9_refuse ⟨rfl, rfl⟩ ⟨Nat.le_of_ble_eq_true rfl, Nat.le_of_ble_eq_true rfl⟩ rfl (Nat.le_of_ble_eq_true rfl) dX9_sign_10 (fun r7 M6 h => ?_)
    exact r_zret (pc := 13) C dX9_sign_13 h.1 h.2
theorem yd_X9_readsNumber : yX9_readsNumber.cls ≠ "java/lang/invoke/MethodHandle" ∧ yX9_readsNumber.cls ≠ "java/lang/invoke/VarHandle" ∧ (parseMethodDescriptor yX9_readsNumber.desc).map (fun d => d.parameters.length) = some 2 := by decide +kernel
def wJ_X9_readsNumber_113  (Q : Int32 → Mem → Prop)  (M : Mem) (x1 : Int32) (x2 : Int32) (x3 : Int32) (s1 : Int32) : Prop :=
  ∀ M1 : Mem, M1 = ms M 85 14 s1 → (w_X9_in  M1 (Int32.toInt64 (M1 85 14)) (Int32.toInt64 x1) (Int32.toInt64 x2) (fun r3 M2 => ((¬ r3 = 0) → (∀ v5 : Int32, v5 = ((M2 85 12) + x3) → (∀ M6 : Mem, M6 = ms M2 85 12 v5 → (Q 1 M6)))) ∧ ((r3 = 0) → (w_X9_refuse  M2 2 (fun r8 M7 => vz r8 ∧ Q r8 M7)))))
def wJ_X9_readsNumber_77  (Q : Int32 → Mem → Prop)  (M : Mem) (x1 : Int32) (x2 : Int32) (s0 : Int32) : Prop :=
  ((¬ s0 = 2) → (wJ_X9_readsNumber_113  Q  M x1 x2 s0 (M 85 14))) ∧ ((s0 = 2) → (∀ v2 : Int32, v2 = ((M 85 12) + 1) → (vp_in v2 120 ∧ (wJ_X9_readsNumber_113  Q  M x1 x2 s0 (((10 * (M 85 14)) + (M 91 (Int32.toNatClampNeg v2))) - 48)))))
def wJ_X9_readsNumber_43  (Q : Int32 → Mem → Prop)  (M : Mem) (x1 : Int32) (x2 : Int32) : Prop :=
  ∀ v1 : Int32, v1 = (M 85 12) → (vp_in v1 120 ∧ (∀ v3 : Int32, v3 = ((M 91 (Int32.toNatClampNeg v1)) - 48) → (∀ M4 : Mem, M4 = ms M 85 14 v3 → (w_X9_isFigure  M4 ((M4 85 12) + 1) (fun r6 M5 => ((r6 = 0) → (wJ_X9_readsNumber_77  Q  M5 x1 x2 1)) ∧ ((¬ r6 = 0) → (wJ_X9_readsNumber_77  Q  M5 x1 x2 2)))))))
def w_X9_readsNumber  (M : Mem) (x1 : Int32) (x2 : Int32) (Q : Int32 → Mem → Prop) : Prop :=
  w_X9_isFigure  M (M 85 12) (fun r2 M1 => ((r2 = 0) → (w_X9_refuse  M1 1 (fun r5 M4 => vz r5 ∧ Q r5 M4))) ∧ ((¬ r2 = 0) → (w_X9_isFigure  M1 ((M1 85 12) + 1) (fun r7 M6 => ((r7 = 0) → (wJ_X9_readsNumber_43  Q  M6 x1 x2)) ∧ ((¬ r7 = 0) → (w_X9_isFigure  M6 ((M6 85 12) + 2) (fun r10 M9 => ((r10 = 0) → (wJ_X9_readsNumber_43  Q  M9 x1 x2)) ∧ ((¬ r10 = 0) → (w_X9_refuse  M9 1 (fun r13 M12 => vz r13 ∧ Q r13 M12))))))))))
abbrev rm_X9_readsNumber : Room := { frames := 9, cells := 0, slots := 0, locals := 180 }
set_option maxHeartbeats 4000000 in
set_option maxRecDepth 100000 in
theorem c_X9_readsNumber (X : Cx)  (M : Mem) (x1 : Int32) (x2 : Int32) (Q : Int32 → Mem → Prop) (h : w_X9_readsNumber  M x1 x2 Q) : Ct yX9_readsNumber cX9_readsNumber 4 (some .boolean) rm_X9_readsNumber X M [.ref (ad X 85), .int x1, .int x2] (Qi X Q) := by
  refine ct_of (own := RX9) (lv := [(0, .ref (ad X 85)), (1, .int x1), (2, .int x2)]) rfl (by decide) (Nat.le_of_ble_eq_true rfl) rfl ?_
  intro K C
  have hJ113 : ∀  (M : Mem) (x1 : Int32) (x2 : Int32) (x3 : Int32) (s1 : Int32), wJ_X9_readsNumber_113  Q  M x1 x2 x3 s1 → WX K X 4 (Qi X Q) M 113 [(0, .ref (ad X 85)), (1, .int x1), (2, .int x2), (3, .int x3)] [.int s1, .ref (ad X 85)] := by
    intro  M x1 x2 x3 s1 h
    unfold wJ_X9_readsNumber_113 at h
    refine r_put (pc := 113) (k := 85) (j := 14) (Cn := RX9) (T := TX9) (N := 21) (host := "") C (by decide) (ce85 _) rfl iaX9 (by decide) (ce85 _) tyX9_ok nmX9 aw335 rfl rfl (tyX9_ok 14 (by decide)) (Nat.le_of_ble_eq_true rfl) dX9_readsNumber_113 ?_
    refine r_topM (fun M1 eM1 => ?_)
    replace h := h M1 eM1
    refine r_aload_n (pc := 116) C 0 dX9_readsNumber_116 rfl ?_
    refine r_get (pc := 117) (k := 85) (j := 14) (Cn := RX9) (T := TX9) (N := 21) C (by decide) (ce85 _) rfl iaX9 (by decide) aw335 rfl rfl dX9_readsNumber_117 ?_
    refine r_i2l (pc := 120) C dX9_readsNumber_120 ?_
    refine r_iload_n (pc := 121) C 1 dX9_readsNumber_121 rfl ?_
    refine r_i2l (pc := 122) C dX9_readsNumber_122 ?_
    refine r_iload_n (pc := 123) C 2 dX9_readsNumber_123 rfl ?_
    refine r_i2l (pc := 124) C dX9_readsNumber_124 ?_
    have hM := c_X9_in X  M1 (Int32.toInt64 (M1 85 14)) (Int32.toInt64 x1) (Int32.toInt64 x2) _ h
    refine q_s0 (s1 := List.reverse [.long (Int32.toInt64 (M1 85 14)), .long (Int32.toInt64 x1), .long (Int32.toInt64 x2)] ++ []) rfl ?_
    refine r_callSi (pc := 125) (As := [.long (Int32.toInt64 (M1 85 14)), .long (Int32.toInt64 x1), .long (Int32.toInt64 x2)]) (st := []) C 3 hM aw147 aw148 aw149 aw5 yd_X9_in ⟨rfl, rfl⟩ ⟨Nat.le_of_ble_eq_true rfl, Nat.le_of_ble_eq_true rfl⟩ rfl (Nat.le_of_ble_eq_true rfl) dX9_readsNumber_125 (fun r3 M2 h => ?_)
    refine r_if_ne (pc := 128) (tgt := 137) C dX9_readsNumber_128 (by decide) (fun c4 => ?_) (fun c4 => ?_)
    · have h := h.1 c4
      refine r_aload_n (pc := 137) C 0 dX9_readsNumber_137 rfl ?_
      refine r_dup (pc := 138) C dX9_readsNumber_138 rfl ?_
      refine r_get (pc := 139) (k := 85) (j := 12) (Cn := RX9) (T := TX9) (N := 21) C (by decide) (ce85 _) rfl iaX9 (by decide) aw324 rfl rfl dX9_readsNumber_139 ?_
      refine r_iload_n (pc := 142) C 3 dX9_readsNumber_142 rfl ?_
      refine r_iadd (pc := 143) C dX9_readsNumber_143 ?_
      refine r_topi (fun v5 ev5 => ?_)
      replace h := h v5 ev5
      refine r_put (pc := 144) (k := 85) (j := 12) (Cn := RX9) (T := TX9) (N := 21) (host := "") C (by decide) (ce85 _) rfl iaX9 (by decide) (ce85 _) tyX9_ok nmX9 aw324 rfl rfl (tyX9_ok 12 (by decide)) (Nat.le_of_ble_eq_true rfl) dX9_readsNumber_144 ?_
      refine r_topM (fun M6 eM6 => ?_)
      replace h := h M6 eM6
      refine r_iconst (pc := 147) (v := 1) C dX9_readsNumber_147 (by decide) ?_
      exact r_zret (pc := 148) C dX9_readsNumber_148 (Or.inr rfl) h
    · have h := h.2 c4
      refine r_aload_n (pc := 131) C 0 dX9_readsNumber_131 rfl ?_
      refine r_iconst (pc := 132) (v := 2) C dX9_readsNumber_132 (by decide) ?_
      have hM := c_X9_refuse X  M2 2 _ h
      refine q_s0 (s1 := List.reverse [.int 2] ++ .ref (ad X 85) :: []) rfl ?_
      refine r_callVi (pc := 133) (k := 85) (As := [.int 2]) (st := []) C 1 (by decide) (ce85 _) rfl aw345 aw346 hM aw344 aw347 aw5 yd_X9_refuse ⟨rfl, rfl⟩ ⟨Nat.le_of_ble_eq_true rfl, Nat.le_of_ble_eq_true rfl⟩ rfl (Nat.le_of_ble_eq_true rfl) dX9_readsNumber_133 (fun r8 M7 h => ?_)
      exact r_zret (pc := 136) C dX9_readsNumber_136 h.1 h.2
  have hJ77 : ∀  (M : Mem) (x1 : Int32) (x2 : Int32) (s0 : Int32), wJ_X9_readsNumber_77  Q  M x1 x2 s0 → WX K X 4 (Qi X Q) M 77 [(0, .ref (ad X 85)), (1, .int x1), (2, .int x2)] [.int s0] := by
    intro  M x1 x2 s0 h
    unfold wJ_X9_readsNumber_77 at h
    refine r_istore_n (pc := 77) (lv2 := [(3, .int s0), (0, .ref (ad X 85)), (1, .int x1), (2, .int x2)]) C dX9_readsNumber_77 (by decide) rfl ?_
    refine r_aload_n (pc := 78) C 1 dX9_readsNumber_78 rfl ?_
    refine r_iload_n (pc := 79) C 0 dX9_readsNumber_79 rfl ?_
    refine r_iconst (pc := 80) (v := 2) C dX9_readsNumber_80 (by decide) ?_
    refine r_icmp_ne (pc := 81) (tgt := 109) C dX9_readsNumber_81 (by decide) (fun c1 => ?_) (fun c1 => ?_)
    · have h := h.1 c1
      refine r_aload_n (pc := 109) C 1 dX9_readsNumber_109 rfl ?_
      refine r_get (pc := 110) (k := 85) (j := 14) (Cn := RX9) (T := TX9) (N := 21) C (by decide) (ce85 _) rfl iaX9 (by decide) aw335 rfl rfl dX9_readsNumber_110 ?_
      refine r_sub (lv2 := [(0, .ref (ad X 85)), (1, .int x1), (2, .int x2), (3, .int s0)]) [1, 2, 3, 0] rfl ?_
      exact hJ113  _ _ _ _ _ h
    · have h := h.2 c1
      refine r_bipush (pc := 84) (v := 10) C dX9_readsNumber_84 (by decide) ?_
      refine r_aload_n (pc := 86) C 1 dX9_readsNumber_86 rfl ?_
      refine r_get (pc := 87) (k := 85) (j := 14) (Cn := RX9) (T := TX9) (N := 21) C (by decide) (ce85 _) rfl iaX9 (by decide) aw335 rfl rfl dX9_readsNumber_87 ?_
      refine r_imul (pc := 90) C dX9_readsNumber_90 ?_
      refine r_aload_n (pc := 91) C 1 dX9_readsNumber_91 rfl ?_
      refine r_get (pc := 92) (k := 85) (j := 6) (Cn := RX9) (T := TX9) (N := 21) C (by decide) (ce85 _) rfl iaX9 (by decide) aw109 rfl rfl dX9_readsNumber_92 ?_
      refine r_aload_n (pc := 95) C 1 dX9_readsNumber_95 rfl ?_
      refine r_get (pc := 96) (k := 85) (j := 12) (Cn := RX9) (T := TX9) (N := 21) C (by decide) (ce85 _) rfl iaX9 (by decide) aw324 rfl rfl dX9_readsNumber_96 ?_
      refine r_iconst (pc := 99) (v := 1) C dX9_readsNumber_99 (by decide) ?_
      refine r_iadd (pc := 100) C dX9_readsNumber_100 ?_
      refine r_topi (fun v2 ev2 => ?_)
      replace h := h v2 ev2
      obtain ⟨g3, h⟩ := h
      refine q_iald (pc := 101) (k := 91) (n := 120) (j := (Int32.toNatClampNeg v2)) C (by decide) (ce91 _) g3 rfl dX9_readsNumber_101 ?_
      refine r_iadd (pc := 102) C dX9_readsNumber_102 ?_
      refine r_bipush (pc := 103) (v := 48) C dX9_readsNumber_103 (by decide) ?_
      refine r_isub (pc := 105) C dX9_readsNumber_105 ?_
      refine r_goto (pc := 106) (tgt := 113) C dX9_readsNumber_106 (by decide) ?_
      refine r_sub (lv2 := [(0, .ref (ad X 85)), (1, .int x1), (2, .int x2), (3, .int s0)]) [1, 2, 3, 0] rfl ?_
      exact hJ113  _ _ _ _ _ h
  have hJ43 : ∀  (M : Mem) (x1 : Int32) (x2 : Int32), wJ_X9_readsNumber_43  Q  M x1 x2 → WX K X 4 (Qi X Q) M 43 [(0, .ref (ad X 85)), (1, .int x1), (2, .int x2)] [] := by
    intro  M x1 x2 h
    unfold wJ_X9_readsNumber_43 at h
    refine r_aload_n (pc := 43) C 0 dX9_readsNumber_43 rfl ?_
    refine r_aload_n (pc := 44) C 0 dX9_readsNumber_44 rfl ?_
    refine r_get (pc := 45) (k := 85) (j := 6) (Cn := RX9) (T := TX9) (N := 21) C (by decide) (ce85 _) rfl iaX9 (by decide) aw109 rfl rfl dX9_readsNumber_45 ?_
    refine r_aload_n (pc := 48) C 0 dX9_readsNumber_48 rfl ?_
    refine r_get (pc := 49) (k := 85) (j := 12) (Cn := RX9) (T := TX9) (N := 21) C (by decide) (ce85 _) rfl iaX9 (by decide) aw324 rfl rfl dX9_readsNumber_49 ?_
    refine r_topi (fun v1 ev1 => ?_)
    replace h := h v1 ev1
    obtain ⟨g2, h⟩ := h
    refine q_iald (pc := 52) (k := 91) (n := 120) (j := (Int32.toNatClampNeg v1)) C (by decide) (ce91 _) g2 rfl dX9_readsNumber_52 ?_
    refine r_bipush (pc := 53) (v := 48) C dX9_readsNumber_53 (by decide) ?_
    refine r_isub (pc := 55) C dX9_readsNumber_55 ?_
    refine r_topi (fun v3 ev3 => ?_)
    replace h := h v3 ev3
    refine r_put (pc := 56) (k := 85) (j := 14) (Cn := RX9) (T := TX9) (N := 21) (host := "") C (by decide) (ce85 _) rfl iaX9 (by decide) (ce85 _) tyX9_ok nmX9 aw335 rfl rfl (tyX9_ok 14 (by decide)) (Nat.le_of_ble_eq_true rfl) dX9_readsNumber_56 ?_
    refine r_topM (fun M4 eM4 => ?_)
    replace h := h M4 eM4
    refine r_aload_n (pc := 59) C 0 dX9_readsNumber_59 rfl ?_
    refine r_aload_n (pc := 60) C 0 dX9_readsNumber_60 rfl ?_
    refine r_get (pc := 61) (k := 85) (j := 12) (Cn := RX9) (T := TX9) (N := 21) C (by decide) (ce85 _) rfl iaX9 (by decide) aw324 rfl rfl dX9_readsNumber_61 ?_
    refine r_iconst (pc := 64) (v := 1) C dX9_readsNumber_64 (by decide) ?_
    refine r_iadd (pc := 65) C dX9_readsNumber_65 ?_
    have hM := c_X9_isFigure X  M4 ((M4 85 12) + 1) _ h
    refine q_s0 (s1 := List.reverse [.int ((M4 85 12) + 1)] ++ .ref (ad X 85) :: []) rfl ?_
    refine r_callVi (pc := 66) (k := 85) (As := [.int ((M4 85 12) + 1)]) (st := []) C 1 (by decide) (ce85 _) rfl aw353 aw354 hM aw352 aw355 aw5 yd_X9_isFigure ⟨rfl, rfl⟩ ⟨Nat.le_of_ble_eq_true rfl, Nat.le_of_ble_eq_true rfl⟩ rfl (Nat.le_of_ble_eq_true rfl) dX9_readsNumber_66 (fun r6 M5 h => ?_)
    refine r_if_eq (pc := 69) (tgt := 76) C dX9_readsNumber_69 (by decide) (fun c7 => ?_) (fun c7 => ?_)
    · have h := h.1 c7
      refine r_iconst (pc := 76) (v := 1) C dX9_readsNumber_76 (by decide) ?_
      refine r_sub (lv2 := [(0, .ref (ad X 85)), (1, .int x1), (2, .int x2)]) [0, 1, 2] rfl ?_
      exact hJ77  _ _ _ _ h
    · have h := h.2 c7
      refine r_iconst (pc := 72) (v := 2) C dX9_readsNumber_72 (by decide) ?_
      refine r_goto (pc := 73) (tgt := 77) C dX9_readsNumber_73 (by decide) ?_
      refine r_sub (lv2 := [(0, .ref (ad X 85)), (1, .int x1), (2, .int x2)]) [0, 1, 2] rfl ?_
      exact hJ77  _ _ _ _ h
  unfold w_X9_readsNumber at h
  refine r_aload_n (pc := 0) C 0 dX9_readsNumber_0 rfl ?_
  refine r_aload_n (pc := 1) C 0 dX9_readsNumber_1 rfl ?_
  refine r_get (pc := 2) (k := 85) (j := 12) (Cn := RX9) (T := TX9) (N := 21) C (by decide) (ce85 _) rfl iaX9 (by decide) aw324 rfl rfl dX9_readsNumber_2 ?_
  have hM := c_X9_isFigure X  M (M 85 12) _ h
  refine q_s0 (s1 := List.reverse [.int (M 85 12)] ++ .ref (ad X 85) :: []) rfl ?_
  refine r_callVi (pc := 5) (k := 85) (As := [.int (M 85 12)]) (st := []) C 1 (by decide) (ce85 _) rfl aw353 aw354 hM aw352 aw355 aw5 yd_X9_isFigure ⟨rfl, rfl⟩ ⟨Nat.le_of_ble_eq_true rfl, Nat.le_of_ble_eq_true rfl⟩ rfl (Nat.le_of_ble_eq_true rfl) dX9_readsNumber_5 (fun r2 M1 h => ?_)
  refine r_if_eq (pc := 8) (tgt := 37) C dX9_readsNumber_8 (by decide) (fun c3 => ?_) (fun c3 => ?_)
  · have h := h.1 c3
    refine r_aload_n (pc := 37) C 0 dX9_readsNumber_37 rfl ?_
    refine r_iconst (pc := 38) (v := 1) C dX9_readsNumber_38 (by decide) ?_
    have hM := c_X9_refuse X  M1 1 _ h
    refine q_s0 (s1 := List.reverse [.int 1] ++ .ref (ad X 85) :: []) rfl ?_
    refine r_callVi (pc := 39) (k := 85) (As := [.int 1]) (st := []) C 1 (by decide) (ce85 _) rfl aw345 aw346 hM aw344 aw347 aw5 yd_X9_refuse ⟨rfl, rfl⟩ ⟨Nat.le_of_ble_eq_true rfl, Nat.le_of_ble_eq_true rfl⟩ rfl (Nat.le_of_ble_eq_true rfl) dX9_readsNumber_39 (fun r5 M4 h => ?_)
    exact r_zret (pc := 42) C dX9_readsNumber_42 h.1 h.2
  · have h := h.2 c3
    refine r_aload_n (pc := 11) C 0 dX9_readsNumber_11 rfl ?_
    refine r_aload_n (pc := 12) C 0 dX9_readsNumber_12 rfl ?_
    refine r_get (pc := 13) (k := 85) (j := 12) (Cn := RX9) (T := TX9) (N := 21) C (by decide) (ce85 _) rfl iaX9 (by decide) aw324 rfl rfl dX9_readsNumber_13 ?_
    refine r_iconst (pc := 16) (v := 1) C dX9_readsNumber_16 (by decide) ?_
    refine r_iadd (pc := 17) C dX9_readsNumber_17 ?_
    have hM := c_X9_isFigure X  M1 ((M1 85 12) + 1) _ h
    refine q_s0 (s1 := List.reverse [.int ((M1 85 12) + 1)] ++ .ref (ad X 85) :: []) rfl ?_
    refine r_callVi (pc := 18) (k := 85) (As := [.int ((M1 85 12) + 1)]) (st := []) C 1 (by decide) (ce85 _) rfl aw353 aw354 hM aw352 aw355 aw5 yd_X9_isFigure ⟨rfl, rfl⟩ ⟨Nat.le_of_ble_eq_true rfl, Nat.le_of_ble_eq_true rfl⟩ rfl (Nat.le_of_ble_eq_true rfl) dX9_readsNumber_18 (fun r7 M6 h => ?_)
    refine r_if_eq (pc := 21) (tgt := 43) C dX9_readsNumber_21 (by decide) (fun c8 => ?_) (fun c8 => ?_)
    · have h := h.1 c8
      refine r_sub (lv2 := [(0, .ref (ad X 85)), (1, .int x1), (2, .int x2)]) [0, 1, 2] rfl ?_
      exact hJ43  _ _ _ h
    · have h := h.2 c8
      refine r_aload_n (pc := 24) C 0 dX9_readsNumber_24 rfl ?_
      refine r_aload_n (pc := 25) C 0 dX9_readsNumber_25 rfl ?_
      refine r_get (pc := 26) (k := 85) (j := 12) (Cn := RX9) (T := TX9) (N := 21) C (by decide) (ce85 _) rfl iaX9 (by decide) aw324 rfl rfl dX9_readsNumber_26 ?_
      refine r_iconst (pc := 29) (v := 2) C dX9_readsNumber_29 (by decide) ?_
      refine r_iadd (pc := 30) C dX9_readsNumber_30 ?_
      have hM := c_X9_isFigure X  M6 ((M6 85 12) + 2) _ h
      refine q_s0 (s1 := List.reverse [.int ((M6 85 12) + 2)] ++ .ref (ad X 85) :: []) rfl ?_
      refine r_callVi (pc := 31) (k := 85) (As := [.int ((M6 85 12) + 2)]) (st := []) C 1 (by decide) (ce85 _) rfl aw353 aw354 hM aw352 aw355 aw5 yd_X9_isFigure ⟨rfl, rfl⟩ ⟨Nat.le_of_ble_eq_true rfl, Nat.le_of_ble_eq_true rfl⟩ rfl (Nat.le_of_ble_eq_true rfl) dX9_readsNumber_31 (fun r10 M9 h => ?_)
      refine r_if_eq (pc := 34) (tgt := 43) C dX9_readsNumber_34 (by decide) (fun c11 => ?_) (fun c11 => ?_)
      · have h := h.1 c11
        refine r_sub (lv2 := [(0, .ref (ad X 85)), (1, .int x1), (2, .int x2)]) [0, 1, 2] rfl ?_
        exact hJ43  _ _ _ h
      · have h := h.2 c11
        refine r_aload_n (pc := 37) C 0 dX9_readsNumber_37 rfl ?_
        refine r_iconst (pc := 38) (v := 1) C dX9_readsNumber_38 (by decide) ?_
        have hM := c_X9_refuse X  M9 1 _ h
        refine q_s0 (s1 := List.reverse [.int 1] ++ .ref (ad X 85) :: []) rfl ?_
        refine r_callVi (pc := 39) (k := 85) (As := [.int 1]) (st := []) C 1 (by decide) (ce85 _) rfl aw345 aw346 hM aw344 aw347 aw5 yd_X9_refuse ⟨rfl, rfl⟩ ⟨Nat.le_of_ble_eq_true rfl, Nat.le_of_ble_eq_true rfl⟩ rfl (Nat.le_of_ble_eq_true rfl) dX9_readsNumber_39 (fun r13 M12 h => ?_)
        exact r_zret (pc := 42) C dX9_readsNumber_42 h.1 h.2
theorem yd_X9_readsLaw : yX9_readsLaw.cls ≠ "java/lang/invoke/MethodHandle" ∧ yX9_readsLaw.cls ≠ "java/lang/invoke/VarHandle" ∧ (parseMethodDescriptor yX9_readsLaw.desc).map (fun d => d.parameters.length) = some 0 := by decide +kernel
def w_X9_readsLaw  (M : Mem)  (Q : Int32 → Mem → Prop) : Prop :=
  w_X9_sign  M 104 (fun r2 M1 => ((r2 = 0) → (Q 0 M1)) ∧ ((¬ r2 = 0) → (w_X9_readsNumber  M1 2 6 (fun r5 M4 => ((¬ r5 = 0) → (∀ v7 : Int32, v7 = (M4 85 14) → (∀ M8 : Mem, M8 = ms M4 86 3402 v7 → (w_X9_sign  M8 44 (fun r10 M9 => ((r10 = 0) → (Q 0 M9)) ∧ ((¬ r10 = 0) → (w_X9_readsNumber  M9 0 9 (fun r13 M12 => ((¬ r13 = 0) → (∀ v15 : Int32, v15 = (M12 85 14) → (∀ M16 : Mem, M16 = ms M12 86 3403 v15 → (w_X9_sign  M16 59 (fun r18 M17 => vz r18 ∧ Q r18 M17))))) ∧ ((r13 = 0) → (Q 0 M12)))))))))) ∧ ((r5 = 0) → (Q 0 M4))))))
abbrev rm_X9_readsLaw : Room := { frames := 12, cells := 0, slots := 0, locals := 240 }
set_option maxHeartbeats 4000000 in
set_option maxRecDepth 100000 in
theorem c_X9_readsLaw (X : Cx)  (M : Mem)  (Q : Int32 → Mem → Prop) (h : w_X9_readsLaw  M  Q) : Ct yX9_readsLaw cX9_readsLaw 1 (some .boolean) rm_X9_readsLaw X M [.ref (ad X 85)] (Qi X Q) := by
  refine ct_of (own := RX9) (lv := [(0, .ref (ad X 85))]) rfl (by decide) (Nat.le_of_ble_eq_true rfl) rfl ?_
  intro K C
  unfold w_X9_readsLaw at h
  refine r_aload_n (pc := 0) C 0 dX9_readsLaw_0 rfl ?_
  refine r_bipush (pc := 1) (v := 104) C dX9_readsLaw_1 (by decide) ?_
  have hM := c_X9_sign X  M 104 _ h
  refine q_s0 (s1 := List.reverse [.int 104] ++ .ref (ad X 85) :: []) rfl ?_
  refine r_callVi (pc := 3) (k := 85) (As := [.int 104]) (st := []) C 1 (by decide) (ce85 _) rfl aw337 aw338 hM aw336 aw339 aw5 yd_X9_sign ⟨rfl, rfl⟩ ⟨Nat.le_of_ble_eq_true rfl, Nat.le_of_ble_eq_true rfl⟩ rfl (Nat.le_of_ble_eq_true rfl) dX9_readsLaw_3 (fun r2 M1 h => ?_)
  refine r_if_eq (pc := 6) (tgt := 19) C dX9_readsLaw_6 (by decide) (fun c3 => ?_) (fun c3 => ?_)
  · have h := h.1 c3
    refine r_iconst (pc := 19) (v := 0) C dX9_readsLaw_19 (by decide) ?_
    exact r_zret (pc := 20) C dX9_readsLaw_20 (Or.inl rfl) h
  · have h := h.2 c3
    refine r_aload_n (pc := 9) C 0 dX9_readsLaw_9 rfl ?_
    refine r_iconst (pc := 10) (v := 2) C dX9_readsLaw_10 (by decide) ?_
    refine r_bipush (pc := 11) (v := 6) C dX9_readsLaw_11 (by decide) ?_
    have hM := c_X9_readsNumber X  M1 2 6 _ h
    refine q_s0 (s1 := List.reverse [.int 2, .int 6] ++ .ref (ad X 85) :: []) rfl ?_
    refine r_callVi (pc := 13) (k := 85) (As := [.int 2, .int 6]) (st := []) C 2 (by decide) (ce85 _) rfl aw349 aw350 hM aw348 aw351 aw5 yd_X9_readsNumber ⟨rfl, rfl⟩ ⟨Nat.le_of_ble_eq_true rfl, Nat.le_of_ble_eq_true rfl⟩ rfl (Nat.le_of_ble_eq_true rfl) dX9_readsLaw_13 (fun r5 M4 h => ?_)
    refine r_if_ne (pc := 16) (tgt := 21) C dX9_readsLaw_16 (by decide) (fun c6 => ?_) (fun c6 => ?_)
    · have h := h.1 c6
      refine r_aload_n (pc := 21) C 0 dX9_readsLaw_21 rfl ?_
      refine r_get (pc := 22) (k := 85) (j := 0) (Cn := RX9) (T := TX9) (N := 21) C (by decide) (ce85 _) rfl iaX9 (by decide) aw103 rfl rfl dX9_readsLaw_22 ?_
      refine r_sipush (pc := 25) (v := 3402) C dX9_readsLaw_25 (by decide) ?_
      refine r_aload_n (pc := 28) C 0 dX9_readsLaw_28 rfl ?_
      refine r_get (pc := 29) (k := 85) (j := 14) (Cn := RX9) (T := TX9) (N := 21) C (by decide) (ce85 _) rfl iaX9 (by decide) aw335 rfl rfl dX9_readsLaw_29 ?_
      refine r_topi (fun v7 ev7 => ?_)
      replace h := h v7 ev7
      refine q_iast (pc := 32) (k := 86) (n := 3528) (j := 3402) C (by decide) (ce86) (in_lit (by decide)) (by decide) dX9_readsLaw_32 ?_
      refine r_topM (fun M8 eM8 => ?_)
      replace h := h M8 eM8
      refine r_aload_n (pc := 33) C 0 dX9_readsLaw_33 rfl ?_
      refine r_bipush (pc := 34) (v := 44) C dX9_readsLaw_34 (by decide) ?_
      have hM := c_X9_sign X  M8 44 _ h
      refine q_s0 (s1 := List.reverse [.int 44] ++ .ref (ad X 85) :: []) rfl ?_
      refine r_callVi (pc := 36) (k := 85) (As := [.int 44]) (st := []) C 1 (by decide) (ce85 _) rfl aw337 aw338 hM aw336 aw339 aw5 yd_X9_sign ⟨rfl, rfl⟩ ⟨Nat.le_of_ble_eq_true rfl, Nat.le_of_ble_eq_true rfl⟩ rfl (Nat.le_of_ble_eq_true rfl) dX9_readsLaw_36 (fun r10 M9 h => ?_)
      refine r_if_eq (pc := 39) (tgt := 52) C dX9_readsLaw_39 (by decide) (fun c11 => ?_) (fun c11 => ?_)
      · have h := h.1 c11
        refine r_iconst (pc := 52) (v := 0) C dX9_readsLaw_52 (by decide) ?_
        exact r_zret (pc := 53) C dX9_readsLaw_53 (Or.inl rfl) h
      · have h := h.2 c11
        refine r_aload_n (pc := 42) C 0 dX9_readsLaw_42 rfl ?_
        refine r_iconst (pc := 43) (v := 0) C dX9_readsLaw_43 (by decide) ?_
        refine r_bipush (pc := 44) (v := 9) C dX9_readsLaw_44 (by decide) ?_
        have hM := c_X9_readsNumber X  M9 0 9 _ h
        refine q_s0 (s1 := List.reverse [.int 0, .int 9] ++ .ref (ad X 85) :: []) rfl ?_
        refine r_callVi (pc := 46) (k := 85) (As := [.int 0, .int 9]) (st := []) C 2 (by decide) (ce85 _) rfl aw349 aw350 hM aw348 aw351 aw5 yd_X9_readsNumber ⟨rfl, rfl⟩ ⟨Nat.le_of_ble_eq_true rfl, Nat.le_of_ble_eq_true rfl⟩ rfl (Nat.le_of_ble_eq_true rfl) dX9_readsLaw_46 (fun r13 M12 h => ?_)
        refine r_if_ne (pc := 49) (tgt := 54) C dX9_readsLaw_49 (by decide) (fun c14 => ?_) (fun c14 => ?_)
        · have h := h.1 c14
          refine r_aload_n (pc := 54) C 0 dX9_readsLaw_54 rfl ?_
          refine r_get (pc := 55) (k := 85) (j := 0) (Cn := RX9) (T := TX9) (N := 21) C (by decide) (ce85 _) rfl iaX9 (by decide) aw103 rfl rfl dX9_readsLaw_55 ?_
          refine r_sipush (pc := 58) (v := 3403) C dX9_readsLaw_58 (by decide) ?_
          refine r_aload_n (pc := 61) C 0 dX9_readsLaw_61 rfl ?_
          refine r_get (pc := 62) (k := 85) (j := 14) (Cn := RX9) (T := TX9) (N := 21) C (by decide) (ce85 _) rfl iaX9 (by decide) aw335 rfl rfl dX9_readsLaw_62 ?_
          refine r_topi (fun v15 ev15 => ?_)
          replace h := h v15 ev15
          refine q_iast (pc := 65) (k := 86) (n := 3528) (j := 3403) C (by decide) (ce86) (in_lit (by decide)) (by decide) dX9_readsLaw_65 ?_
          refine r_topM (fun M16 eM16 => ?_)
          replace h := h M16 eM16
          refine r_aload_n (pc := 66) C 0 dX9_readsLaw_66 rfl ?_
          refine r_bipush (pc := 67) (v := 59) C dX9_readsLaw_67 (by decide) ?_
          have hM := c_X9_sign X  M16 59 _ h
          refine q_s0 (s1 := List.reverse [.int 59] ++ .ref (ad X 85) :: []) rfl ?_
          refine r_callVi (pc := 69) (k := 85) (As := [.int 59]) (st := []) C 1 (by decide) (ce85 _) rfl aw337 aw338 hM aw336 aw339 aw5 yd_X9_sign ⟨rfl, rfl⟩ ⟨Nat.le_of_ble_eq_true rfl, Nat.le_of_ble_eq_true rfl⟩ rfl (Nat.le_of_ble_eq_true rfl) dX9_readsLaw_69 (fun r18 M17 h => ?_)
          exact r_zret (pc := 72) C dX9_readsLaw_72 h.1 h.2
        · have h := h.2 c14
          refine r_iconst (pc := 52) (v := 0) C dX9_readsLaw_52 (by decide) ?_
          exact r_zret (pc := 53) C dX9_readsLaw_53 (Or.inl rfl) h
    · have h := h.2 c6
      refine r_iconst (pc := 19) (v := 0) C dX9_readsLaw_19 (by decide) ?_
      exact r_zret (pc := 20) C dX9_readsLaw_20 (Or.inl rfl) h
theorem yd_X9_readsDoor : yX9_readsDoor.cls ≠ "java/lang/invoke/MethodHandle" ∧ yX9_readsDoor.cls ≠ "java/lang/invoke/VarHandle" ∧ (parseMethodDescriptor yX9_readsDoor.desc).map (fun d => d.parameters.length) = some 0 := by decide +kernel
def w_X9_readsDoor  (M : Mem)  (Q : Int32 → Mem → Prop) : Prop :=
  ∀ v1 : Int32, v1 = (M 86 3404) → (((¬ v1 = 6) → (∀ v3 : Int32, v3 = ((M 85 12) + 1) → (∀ M4 : Mem, M4 = ms M 85 12 v3 → (w_X9_readsNumber  M4 0 ((M4 86 3402) - 1) (fun r6 M5 => ((¬ r6 = 0) → (∀ v8 : Int32, v8 = (M5 85 14) → (w_X9_sign  M5 44 (fun r10 M9 => ((¬ r10 = 0) → (∀ v12 : Int32, v12 = (M9 85 12) → (w_X9_readsNumber  M9 0 ((M9 86 3402) - 1) (fun r14 M13 => ((¬ r14 = 0) → (((¬ (M13 85 14) = v8) → (vp_in (3408 + (2 * v1)) 3528 ∧ (∀ M18 : Mem, M18 = ms M13 86 (Int32.toNatClampNeg (3408 + (2 * v1))) v8 → (∀ v19 : Int32, v19 = (M18 85 14) → (vp_in ((3408 + (2 * v1)) + 1) 3528 ∧ (∀ M21 : Mem, M21 = ms M18 86 (Int32.toNatClampNeg ((3408 + (2 * v1)) + 1)) v19 → (∀ v22 : Int32, v22 = ((M21 86 3404) + 1) → (∀ M23 : Mem, M23 = ms M21 86 3404 v22 → (w_X9_sign  M23 59 (fun r25 M24 => vz r25 ∧ Q r25 M24)))))))))) ∧ (((M13 85 14) = v8) → (∀ M26 : Mem, M26 = ms M13 85 12 v12 → (w_X9_refuse  M26 2 (fun r28 M27 => vz r28 ∧ Q r28 M27)))))) ∧ ((r14 = 0) → (Q 0 M13)))))) ∧ ((r10 = 0) → (Q 0 M9)))))) ∧ ((r6 = 0) → (Q 0 M5))))))) ∧ ((v1 = 6) → (w_X9_refuse  M 3 (fun r30 M29 => vz r30 ∧ Q r30 M29))))
abbrev rm_X9_readsDoor : Room := { frames := 12, cells := 0, slots := 0, locals := 240 }
set_option maxHeartbeats 4000000 in
set_option maxRecDepth 100000 in
theorem c_X9_readsDoor (X : Cx)  (M : Mem)  (Q : Int32 → Mem → Prop) (h : w_X9_readsDoor  M  Q) : Ct yX9_readsDoor cX9_readsDoor 4 (some .boolean) rm_X9_readsDoor X M [.ref (ad X 85)] (Qi X Q) := by
  refine ct_of (own := RX9) (lv := [(0, .ref (ad X 85))]) rfl (by decide) (Nat.le_of_ble_eq_true rfl) rfl ?_
  intro K C
  unfold w_X9_readsDoor at h
  refine r_aload_n (pc := 0) C 0 dX9_readsDoor_0 rfl ?_
  refine r_get (pc := 1) (k := 85) (j := 0) (Cn := RX9) (T := TX9) (N := 21) C (by decide) (ce85 _) rfl iaX9 (by decide) aw103 rfl rfl dX9_readsDoor_1 ?_
  refine r_sipush (pc := 4) (v := 3404) C dX9_readsDoor_4 (by decide) ?_
  refine q_iald (pc := 7) (k := 86) (n := 3528) (j := 3404) C (by decide) (ce86 _) (in_lit (by decide)) (by decide) dX9_readsDoor_7 ?_
  refine r_topi (fun v1 ev1 => ?_)
  replace h := h v1 ev1
  refine r_istore_n (pc := 8) (lv2 := [(1, .int v1), (0, .ref (ad X 85))]) C dX9_readsDoor_8 (by decide) rfl ?_
  refine r_iload_n (pc := 9) C 0 dX9_readsDoor_9 rfl ?_
  refine r_bipush (pc := 10) (v := 6) C dX9_readsDoor_10 (by decide) ?_
  refine r_icmp_ne (pc := 12) (tgt := 21) C dX9_readsDoor_12 (by decide) (fun c2 => ?_) (fun c2 => ?_)
  · have h := h.1 c2
    refine r_aload_n (pc := 21) C 1 dX9_readsDoor_21 rfl ?_
    refine r_dup (pc := 22) C dX9_readsDoor_22 rfl ?_
    refine r_get (pc := 23) (k := 85) (j := 12) (Cn := RX9) (T := TX9) (N := 21) C (by decide) (ce85 _) rfl iaX9 (by decide) aw324 rfl rfl dX9_readsDoor_23 ?_
    refine r_iconst (pc := 26) (v := 1) C dX9_readsDoor_26 (by decide) ?_
    refine r_iadd (pc := 27) C dX9_readsDoor_27 ?_
    refine r_topi (fun v3 ev3 => ?_)
    replace h := h v3 ev3
    refine r_put (pc := 28) (k := 85) (j := 12) (Cn := RX9) (T := TX9) (N := 21) (host := "") C (by decide) (ce85 _) rfl iaX9 (by decide) (ce85 _) tyX9_ok nmX9 aw324 rfl rfl (tyX9_ok 12 (by decide)) (Nat.le_of_ble_eq_true rfl) dX9_readsDoor_28 ?_
    refine r_topM (fun M4 eM4 => ?_)
    replace h := h M4 eM4
    refine r_aload_n (pc := 31) C 1 dX9_readsDoor_31 rfl ?_
    refine r_iconst (pc := 32) (v := 0) C dX9_readsDoor_32 (by decide) ?_
    refine r_aload_n (pc := 33) C 1 dX9_readsDoor_33 rfl ?_
    refine r_get (pc := 34) (k := 85) (j := 0) (Cn := RX9) (T := TX9) (N := 21) C (by decide) (ce85 _) rfl iaX9 (by decide) aw103 rfl rfl dX9_readsDoor_34 ?_
    refine r_sipush (pc := 37) (v := 3402) C dX9_readsDoor_37 (by decide) ?_
    refine q_iald (pc := 40) (k := 86) (n := 3528) (j := 3402) C (by decide) (ce86 _) (in_lit (by decide)) (by decide) dX9_readsDoor_40 ?_
    refine r_iconst (pc := 41) (v := 1) C dX9_readsDoor_41 (by decide) ?_
    refine r_isub (pc := 42) C dX9_readsDoor_42 ?_
    have hM := c_X9_readsNumber X  M4 0 ((M4 86 3402) - 1) _ h
    refine q_s0 (s1 := List.reverse [.int 0, .int ((M4 86 3402) - 1)] ++ .ref (ad X 85) :: []) rfl ?_
    refine r_callVi (pc := 43) (k := 85) (As := [.int 0, .int ((M4 86 3402) - 1)]) (st := []) C 2 (by decide) (ce85 _) rfl aw349 aw350 hM aw348 aw351 aw5 yd_X9_readsNumber ⟨rfl, rfl⟩ ⟨Nat.le_of_ble_eq_true rfl, Nat.le_of_ble_eq_true rfl⟩ rfl (Nat.le_of_ble_eq_true rfl) dX9_readsDoor_43 (fun r6 M5 h => ?_)
    refine r_if_ne (pc := 46) (tgt := 51) C dX9_readsDoor_46 (by decide) (fun c7 => ?_) (fun c7 => ?_)
    · have h := h.1 c7
      refine r_aload_n (pc := 51) C 1 dX9_readsDoor_51 rfl ?_
      refine r_get (pc := 52) (k := 85) (j := 14) (Cn := RX9) (T := TX9) (N := 21) C (by decide) (ce85 _) rfl iaX9 (by decide) aw335 rfl rfl dX9_readsDoor_52 ?_
      refine r_topi (fun v8 ev8 => ?_)
      replace h := h v8 ev8
      refine r_istore_n (pc := 55) (lv2 := [(2, .int v8), (1, .int v1), (0, .ref (ad X 85))]) C dX9_readsDoor_55 (by decide) rfl ?_
      refine r_aload_n (pc := 56) C 2 dX9_readsDoor_56 rfl ?_
      refine r_bipush (pc := 57) (v := 44) C dX9_readsDoor_57 (by decide) ?_
      have hM := c_X9_sign X  M5 44 _ h
      refine q_s0 (s1 := List.reverse [.int 44] ++ .ref (ad X 85) :: []) rfl ?_
      refine r_callVi (pc := 59) (k := 85) (As := [.int 44]) (st := []) C 1 (by decide) (ce85 _) rfl aw337 aw338 hM aw336 aw339 aw5 yd_X9_sign ⟨rfl, rfl⟩ ⟨Nat.le_of_ble_eq_true rfl, Nat.le_of_ble_eq_true rfl⟩ rfl (Nat.le_of_ble_eq_true rfl) dX9_readsDoor_59 (fun r10 M9 h => ?_)
      refine r_if_ne (pc := 62) (tgt := 67) C dX9_readsDoor_62 (by decide) (fun c11 => ?_) (fun c11 => ?_)
      · have h := h.1 c11
        refine r_aload_n (pc := 67) C 2 dX9_readsDoor_67 rfl ?_
        refine r_get (pc := 68) (k := 85) (j := 12) (Cn := RX9) (T := TX9) (N := 21) C (by decide) (ce85 _) rfl iaX9 (by decide) aw324 rfl rfl dX9_readsDoor_68 ?_
        refine r_topi (fun v12 ev12 => ?_)
        replace h := h v12 ev12
        refine r_istore_n (pc := 71) (lv2 := [(3, .int v12), (2, .int v8), (1, .int v1), (0, .ref (ad X 85))]) C dX9_readsDoor_71 (by decide) rfl ?_
        refine r_aload_n (pc := 72) C 3 dX9_readsDoor_72 rfl ?_
        refine r_iconst (pc := 73) (v := 0) C dX9_readsDoor_73 (by decide) ?_
        refine r_aload_n (pc := 74) C 3 dX9_readsDoor_74 rfl ?_
        refine r_get (pc := 75) (k := 85) (j := 0) (Cn := RX9) (T := TX9) (N := 21) C (by decide) (ce85 _) rfl iaX9 (by decide) aw103 rfl rfl dX9_readsDoor_75 ?_
        refine r_sipush (pc := 78) (v := 3402) C dX9_readsDoor_78 (by decide) ?_
        refine q_iald (pc := 81) (k := 86) (n := 3528) (j := 3402) C (by decide) (ce86 _) (in_lit (by decide)) (by decide) dX9_readsDoor_81 ?_
        refine r_iconst (pc := 82) (v := 1) C dX9_readsDoor_82 (by decide) ?_
        refine r_isub (pc := 83) C dX9_readsDoor_83 ?_
        have hM := c_X9_readsNumber X  M9 0 ((M9 86 3402) - 1) _ h
        refine q_s0 (s1 := List.reverse [.int 0, .int ((M9 86 3402) - 1)] ++ .ref (ad X 85) :: []) rfl ?_
        refine r_callVi (pc := 84) (k := 85) (As := [.int 0, .int ((M9 86 3402) - 1)]) (st := []) C 2 (by decide) (ce85 _) rfl aw349 aw350 hM aw348 aw351 aw5 yd_X9_readsNumber ⟨rfl, rfl⟩ ⟨Nat.le_of_ble_eq_true rfl, Nat.le_of_ble_eq_true rfl⟩ rfl (Nat.le_of_ble_eq_true rfl) dX9_readsDoor_84 (fun r14 M13 h => ?_)
        refine r_if_ne (pc := 87) (tgt := 92) C dX9_readsDoor_87 (by decide) (fun c15 => ?_) (fun c15 => ?_)
        · have h := h.1 c15
          refine r_aload_n (pc := 92) C 3 dX9_readsDoor_92 rfl ?_
          refine r_get (pc := 93) (k := 85) (j := 14) (Cn := RX9) (T := TX9) (N := 21) C (by decide) (ce85 _) rfl iaX9 (by decide) aw335 rfl rfl dX9_readsDoor_93 ?_
          refine r_iload_n (pc := 96) C 1 dX9_readsDoor_96 rfl ?_
          refine r_icmp_ne (pc := 97) (tgt := 111) C dX9_readsDoor_97 (by decide) (fun c16 => ?_) (fun c16 => ?_)
          · have h := h.1 c16
            refine r_aload_n (pc := 111) C 3 dX9_readsDoor_111 rfl ?_
            refine r_get (pc := 112) (k := 85) (j := 0) (Cn := RX9) (T := TX9) (N := 21) C (by decide) (ce85 _) rfl iaX9 (by decide) aw103 rfl rfl dX9_readsDoor_112 ?_
            refine r_sipush (pc := 115) (v := 3408) C dX9_readsDoor_115 (by decide) ?_
            refine r_iconst (pc := 118) (v := 2) C dX9_readsDoor_118 (by decide) ?_
            refine r_iload_n (pc := 119) C 2 dX9_readsDoor_119 rfl ?_
            refine r_imul (pc := 120) C dX9_readsDoor_120 ?_
            refine r_iadd (pc := 121) C dX9_readsDoor_121 ?_
            refine r_iload_n (pc := 122) C 1 dX9_readsDoor_122 rfl ?_
            obtain ⟨g17, h⟩ := h
            refine q_iast (pc := 123) (k := 86) (n := 3528) (j := (Int32.toNatClampNeg (3408 + (2 * v1)))) C (by decide) (ce86) g17 rfl dX9_readsDoor_123 ?_
            refine r_topM (fun M18 eM18 => ?_)
            replace h := h M18 eM18
            refine r_aload_n (pc := 124) C 3 dX9_readsDoor_124 rfl ?_
            refine r_get (pc := 125) (k := 85) (j := 0) (Cn := RX9) (T := TX9) (N := 21) C (by decide) (ce85 _) rfl iaX9 (by decide) aw103 rfl rfl dX9_readsDoor_125 ?_
            refine r_sipush (pc := 128) (v := 3408) C dX9_readsDoor_128 (by decide) ?_
            refine r_iconst (pc := 131) (v := 2) C dX9_readsDoor_131 (by decide) ?_
            refine r_iload_n (pc := 132) C 2 dX9_readsDoor_132 rfl ?_
            refine r_imul (pc := 133) C dX9_readsDoor_133 ?_
            refine r_iadd (pc := 134) C dX9_readsDoor_134 ?_
            refine r_iconst (pc := 135) (v := 1) C dX9_readsDoor_135 (by decide) ?_
            refine r_iadd (pc := 136) C dX9_readsDoor_136 ?_
            refine r_aload_n (pc := 137) C 3 dX9_readsDoor_137 rfl ?_
            refine r_get (pc := 138) (k := 85) (j := 14) (Cn := RX9) (T := TX9) (N := 21) C (by decide) (ce85 _) rfl iaX9 (by decide) aw335 rfl rfl dX9_readsDoor_138 ?_
            refine r_topi (fun v19 ev19 => ?_)
            replace h := h v19 ev19
            obtain ⟨g20, h⟩ := h
            refine q_iast (pc := 141) (k := 86) (n := 3528) (j := (Int32.toNatClampNeg ((3408 + (2 * v1)) + 1))) C (by decide) (ce86) g20 rfl dX9_readsDoor_141 ?_
            refine r_topM (fun M21 eM21 => ?_)
            replace h := h M21 eM21
            refine r_aload_n (pc := 142) C 3 dX9_readsDoor_142 rfl ?_
            refine r_get (pc := 143) (k := 85) (j := 0) (Cn := RX9) (T := TX9) (N := 21) C (by decide) (ce85 _) rfl iaX9 (by decide) aw103 rfl rfl dX9_readsDoor_143 ?_
            refine r_sipush (pc := 146) (v := 3404) C dX9_readsDoor_146 (by decide) ?_
            refine r_dup2 (pc := 149) C dX9_readsDoor_149 rfl rfl ?_
            refine q_iald (pc := 150) (k := 86) (n := 3528) (j := 3404) C (by decide) (ce86 _) (in_lit (by decide)) (by decide) dX9_readsDoor_150 ?_
            refine r_iconst (pc := 151) (v := 1) C dX9_readsDoor_151 (by decide) ?_
            refine r_iadd (pc := 152) C dX9_readsDoor_152 ?_
            refine r_topi (fun v22 ev22 => ?_)
            replace h := h v22 ev22
            refine q_iast (pc := 153) (k := 86) (n := 3528) (j := 3404) C (by decide) (ce86) (in_lit (by decide)) (by decide) dX9_readsDoor_153 ?_
            refine r_topM (fun M23 eM23 => ?_)
            replace h := h M23 eM23
            refine r_aload_n (pc := 154) C 3 dX9_readsDoor_154 rfl ?_
            refine r_bipush (pc := 155) (v := 59) C dX9_readsDoor_155 (by decide) ?_
            have hM := c_X9_sign X  M23 59 _ h
            refine q_s0 (s1 := List.reverse [.int 59] ++ .ref (ad X 85) :: []) rfl ?_
            refine r_callVi (pc := 157) (k := 85) (As := [.int 59]) (st := []) C 1 (by decide) (ce85 _) rfl aw337 aw338 hM aw336 aw339 aw5 yd_X9_sign ⟨rfl, rfl⟩ ⟨Nat.le_of_ble_eq_true rfl, Nat.le_of_ble_eq_true rfl⟩ rfl (Nat.le_of_ble_eq_true rfl) dX9_readsDoor_157 (fun r25 M24 h => ?_)
            exact r_zret (pc := 160) C dX9_readsDoor_160 h.1 h.2
          · have h := h.2 c16
            refine r_aload_n (pc := 100) C 3 dX9_readsDoor_100 rfl ?_
            refine r_iload_n (pc := 101) C 0 dX9_readsDoor_101 rfl ?_
            refine r_put (pc := 102) (k := 85) (j := 12) (Cn := RX9) (T := TX9) (N := 21) (host := "") C (by decide) (ce85 _) rfl iaX9 (by decide) (ce85 _) tyX9_ok nmX9 aw324 rfl rfl (tyX9_ok 12 (by decide)) (Nat.le_of_ble_eq_true rfl) dX9_readsDoor_102 ?_
            refine r_topM (fun M26 eM26 => ?_)
            replace h := h M26 eM26
            refine r_aload_n (pc := 105) C 3 dX9_readsDoor_105 rfl ?_
            refine r_iconst (pc := 106) (v := 2) C dX9_readsDoor_106 (by decide) ?_
            have hM := c_X9_refuse X  M26 2 _ h
            refine q_s0 (s1 := List.reverse [.int 2] ++ .ref (ad X 85) :: []) rfl ?_
            refine r_callVi (pc := 107) (k := 85) (As := [.int 2]) (st := []) C 1 (by decide) (ce85 _) rfl aw345 aw346 hM aw344 aw347 aw5 yd_X9_refuse ⟨rfl, rfl⟩ ⟨Nat.le_of_ble_eq_true rfl, Nat.le_of_ble_eq_true rfl⟩ rfl (Nat.le_of_ble_eq_true rfl) dX9_readsDoor_107 (fun r28 M27 h => ?_)
            exact r_zret (pc := 110) C dX9_readsDoor_110 h.1 h.2
        · have h := h.2 c15
          refine r_iconst (pc := 90) (v := 0) C dX9_readsDoor_90 (by decide) ?_
          exact r_zret (pc := 91) C dX9_readsDoor_91 (Or.inl rfl) h
      · have h := h.2 c11
        refine r_iconst (pc := 65) (v := 0) C dX9_readsDoor_65 (by decide) ?_
        exact r_zret (pc := 66) C dX9_readsDoor_66 (Or.inl rfl) h
    · have h := h.2 c7
      refine r_iconst (pc := 49) (v := 0) C dX9_readsDoor_49 (by decide) ?_
      exact r_zret (pc := 50) C dX9_readsDoor_50 (Or.inl rfl) h
  · have h := h.2 c2
    refine r_aload_n (pc := 15) C 1 dX9_readsDoor_15 rfl ?_
    refine r_iconst (pc := 16) (v := 3) C dX9_readsDoor_16 (by decide) ?_
    have hM := c_X9_refuse X  M 3 _ h
    refine q_s0 (s1 := List.reverse [.int 3] ++ .ref (ad X 85) :: []) rfl ?_
    refine r_callVi (pc := 17) (k := 85) (As := [.int 3]) (st := []) C 1 (by decide) (ce85 _) rfl aw345 aw346 hM aw344 aw347 aw5 yd_X9_refuse ⟨rfl, rfl⟩ ⟨Nat.le_of_ble_eq_true rfl, Nat.le_of_ble_eq_true rfl⟩ rfl (Nat.le_of_ble_eq_true rfl) dX9_readsDoor_17 (fun r30 M29 h => ?_)
    exact r_zret (pc := 20) C dX9_readsDoor_20 h.1 h.2
theorem yd_X9_kindOfLetter : yX9_kindOfLetter.cls ≠ "java/lang/invoke/MethodHandle" ∧ yX9_kindOfLetter.cls ≠ "java/lang/invoke/VarHandle" ∧ (parseMethodDescriptor yX9_kindOfLetter.desc).map (fun d => d.parameters.length) = some 1 := by decide +kernel
def w_X9_kindOfLetter  (M : Mem) (x0 : Int32) (Q : Int32 → Mem → Prop) : Prop :=
  ((¬ x0 = 112) → (((¬ x0 = 102) → (((¬ x0 = 115) → (((¬ x0 = 107) → (((¬ x0 = 110) → (Q 0 M)) ∧ ((x0 = 110) → (Q 5 M)))) ∧ ((x0 = 107) → (Q 4 M)))) ∧ ((x0 = 115) → (Q 3 M)))) ∧ ((x0 = 102) → (Q 2 M)))) ∧ ((x0 = 112) → (Q 1 M))
abbrev rm_X9_kindOfLetter : Room := { frames := 3, cells := 0, slots := 0, locals := 60 }
set_option maxHeartbeats 4000000 in
set_option maxRecDepth 100000 in
theorem c_X9_kindOfLetter (X : Cx)  (M : Mem) (x0 : Int32) (Q : Int32 → Mem → Prop) (h : w_X9_kindOfLetter  M x0 Q) : Ct yX9_kindOfLetter cX9_kindOfLetter 1 (some .int) rm_X9_kindOfLetter X M [.int x0] (Qi X Q) := by
  refine ct_of (own := RX9) (lv := [(0, .int x0)]) rfl (by decide) (Nat.le_of_ble_eq_true rfl) rfl ?_
  intro K C
  unfold w_X9_kindOfLetter at h
  refine r_iload_n (pc := 0) C 0 dX9_kindOfLetter_0 rfl ?_
  refine r_bipush (pc := 1) (v := 112) C dX9_kindOfLetter_1 (by decide) ?_
  refine r_icmp_ne (pc := 3) (tgt := 10) C dX9_kindOfLetter_3 (by decide) (fun c1 => ?_) (fun c1 => ?_)
  · have h := h.1 c1
    refine r_iload_n (pc := 10) C 0 dX9_kindOfLetter_10 rfl ?_
    refine r_bipush (pc := 11) (v := 102) C dX9_kindOfLetter_11 (by decide) ?_
    refine r_icmp_ne (pc := 13) (tgt := 20) C dX9_kindOfLetter_13 (by decide) (fun c2 => ?_) (fun c2 => ?_)
    · have h := h.1 c2
      refine r_iload_n (pc := 20) C 0 dX9_kindOfLetter_20 rfl ?_
      refine r_bipush (pc := 21) (v := 115) C dX9_kindOfLetter_21 (by decide) ?_
      refine r_icmp_ne (pc := 23) (tgt := 30) C dX9_kindOfLetter_23 (by decide) (fun c3 => ?_) (fun c3 => ?_)
      · have h := h.1 c3
        refine r_iload_n (pc := 30) C 0 dX9_kindOfLetter_30 rfl ?_
        refine r_bipush (pc := 31) (v := 107) C dX9_kindOfLetter_31 (by decide) ?_
        refine r_icmp_ne (pc := 33) (tgt := 40) C dX9_kindOfLetter_33 (by decide) (fun c4 => ?_) (fun c4 => ?_)
        · have h := h.1 c4
          refine r_iload_n (pc := 40) C 0 dX9_kindOfLetter_40 rfl ?_
          refine r_bipush (pc := 41) (v := 110) C dX9_kindOfLetter_41 (by decide) ?_
          refine r_icmp_ne (pc := 43) (tgt := 50) C dX9_kindOfLetter_43 (by decide) (fun c5 => ?_) (fun c5 => ?_)
          · have h := h.1 c5
            refine r_iconst (pc := 50) (v := 0) C dX9_kindOfLetter_50 (by decide) ?_
            exact r_iret (pc := 51) C dX9_kindOfLetter_51 h
          · have h := h.2 c5
            refine r_iconst (pc := 46) (v := 5) C dX9_kindOfLetter_46 (by decide) ?_
            refine r_goto (pc := 47) (tgt := 51) C dX9_kindOfLetter_47 (by decide) ?_
            exact r_iret (pc := 51) C dX9_kindOfLetter_51 h
        · have h := h.2 c4
          refine r_iconst (pc := 36) (v := 4) C dX9_kindOfLetter_36 (by decide) ?_
          refine r_goto (pc := 37) (tgt := 51) C dX9_kindOfLetter_37 (by decide) ?_
          exact r_iret (pc := 51) C dX9_kindOfLetter_51 h
      · have h := h.2 c3
        refine r_iconst (pc := 26) (v := 3) C dX9_kindOfLetter_26 (by decide) ?_
        refine r_goto (pc := 27) (tgt := 51) C dX9_kindOfLetter_27 (by decide) ?_
        exact r_iret (pc := 51) C dX9_kindOfLetter_51 h
    · have h := h.2 c2
      refine r_iconst (pc := 16) (v := 2) C dX9_kindOfLetter_16 (by decide) ?_
      refine r_goto (pc := 17) (tgt := 51) C dX9_kindOfLetter_17 (by decide) ?_
      exact r_iret (pc := 51) C dX9_kindOfLetter_51 h
  · have h := h.2 c1
    refine r_iconst (pc := 6) (v := 1) C dX9_kindOfLetter_6 (by decide) ?_
    refine r_goto (pc := 7) (tgt := 51) C dX9_kindOfLetter_7 (by decide) ?_
    exact r_iret (pc := 51) C dX9_kindOfLetter_51 h
theorem yd_X9_readsPerson : yX9_readsPerson.cls ≠ "java/lang/invoke/MethodHandle" ∧ yX9_readsPerson.cls ≠ "java/lang/invoke/VarHandle" ∧ (parseMethodDescriptor yX9_readsPerson.desc).map (fun d => d.parameters.length) = some 0 := by decide +kernel
def w_X9_readsPerson  (M : Mem)  (Q : Int32 → Mem → Prop) : Prop :=
  ∀ v1 : Int32, v1 = (M 86 3405) → (((¬ v1 = 6) → (∀ v3 : Int32, v3 = (M 85 12) → (vp_in v3 120 ∧ (w_X9_kindOfLetter  M (M 91 (Int32.toNatClampNeg v3)) (fun r6 M5 => vp_in (3420 + v1) 3528 ∧ (∀ M8 : Mem, M8 = ms M5 86 (Int32.toNatClampNeg (3420 + v1)) r6 → (∀ v9 : Int32, v9 = ((M8 85 12) + 1) → (∀ M10 : Mem, M10 = ms M8 85 12 v9 → (w_X9_readsNumber  M10 0 ((M10 86 3402) - 1) (fun r12 M11 => ((¬ r12 = 0) → (∀ v14 : Int32, v14 = (M11 85 14) → (vp_in (3426 + v1) 3528 ∧ (∀ M16 : Mem, M16 = ms M11 86 (Int32.toNatClampNeg (3426 + v1)) v14 → (w_X9_sign  M16 44 (fun r18 M17 => ((r18 = 0) → (Q 0 M17)) ∧ ((¬ r18 = 0) → (w_X9_readsNumber  M17 0 6 (fun r21 M20 => ((¬ r21 = 0) → (∀ v23 : Int32, v23 = (M20 85 14) → (vp_in (3432 + v1) 3528 ∧ (∀ M25 : Mem, M25 = ms M20 86 (Int32.toNatClampNeg (3432 + v1)) v23 → (∀ v26 : Int32, v26 = ((M25 86 3405) + 1) → (∀ M27 : Mem, M27 = ms M25 86 3405 v26 → (w_X9_sign  M27 59 (fun r29 M28 => vz r29 ∧ Q r29 M28)))))))) ∧ ((r21 = 0) → (Q 0 M20))))))))))) ∧ ((r12 = 0) → (Q 0 M11)))))))))))) ∧ ((v1 = 6) → (w_X9_refuse  M 3 (fun r31 M30 => vz r31 ∧ Q r31 M30))))
abbrev rm_X9_readsPerson : Room := { frames := 12, cells := 0, slots := 0, locals := 240 }
set_option maxHeartbeats 4000000 in
set_option maxRecDepth 100000 in
theorem c_X9_readsPerson (X : Cx)  (M : Mem)  (Q : Int32 → Mem → Prop) (h : w_X9_readsPerson  M  Q) : Ct yX9_readsPerson cX9_readsPerson 2 (some .boolean) rm_X9_readsPerson X M [.ref (ad X 85)] (Qi X Q) := by
  refine ct_of (own := RX9) (lv := [(0, .ref (ad X 85))]) rfl (by decide) (Nat.le_of_ble_eq_true rfl) rfl ?_
  intro K C
  unfold w_X9_readsPerson at h
  refine r_aload_n (pc := 0) C 0 dX9_readsPerson_0 rfl ?_
  refine r_get (pc := 1) (k := 85) (j := 0) (Cn := RX9) (T := TX9) (N := 21) C (by decide) (ce85 _) rfl iaX9 (by decide) aw103 rfl rfl dX9_readsPerson_1 ?_
  refine r_sipush (pc := 4) (v := 3405) C dX9_readsPerson_4 (by decide) ?_
  refine q_iald (pc := 7) (k := 86) (n := 3528) (j := 3405) C (by decide) (ce86 _) (in_lit (by decide)) (by decide) dX9_readsPerson_7 ?_
  refine r_topi (fun v1 ev1 => ?_)
  replace h := h v1 ev1
  refine r_istore_n (pc := 8) (lv2 := [(1, .int v1), (0, .ref (ad X 85))]) C dX9_readsPerson_8 (by decide) rfl ?_
  refine r_iload_n (pc := 9) C 0 dX9_readsPerson_9 rfl ?_
  refine r_bipush (pc := 10) (v := 6) C dX9_readsPerson_10 (by decide) ?_
  refine r_icmp_ne (pc := 12) (tgt := 21) C dX9_readsPerson_12 (by decide) (fun c2 => ?_) (fun c2 => ?_)
  · have h := h.1 c2
    refine r_aload_n (pc := 21) C 1 dX9_readsPerson_21 rfl ?_
    refine r_get (pc := 22) (k := 85) (j := 0) (Cn := RX9) (T := TX9) (N := 21) C (by decide) (ce85 _) rfl iaX9 (by decide) aw103 rfl rfl dX9_readsPerson_22 ?_
    refine r_sipush (pc := 25) (v := 3420) C dX9_readsPerson_25 (by decide) ?_
    refine r_iload_n (pc := 28) C 0 dX9_readsPerson_28 rfl ?_
    refine r_iadd (pc := 29) C dX9_readsPerson_29 ?_
    refine r_aload_n (pc := 30) C 1 dX9_readsPerson_30 rfl ?_
    refine r_get (pc := 31) (k := 85) (j := 6) (Cn := RX9) (T := TX9) (N := 21) C (by decide) (ce85 _) rfl iaX9 (by decide) aw109 rfl rfl dX9_readsPerson_31 ?_
    refine r_aload_n (pc := 34) C 1 dX9_readsPerson_34 rfl ?_
    refine r_get (pc := 35) (k := 85) (j := 12) (Cn := RX9) (T := TX9) (N := 21) C (by decide) (ce85 _) rfl iaX9 (by decide) aw324 rfl rfl dX9_readsPerson_35 ?_
    refine r_topi (fun v3 ev3 => ?_)
    replace h := h v3 ev3
    obtain ⟨g4, h⟩ := h
    refine q_iald (pc := 38) (k := 91) (n := 120) (j := (Int32.toNatClampNeg v3)) C (by decide) (ce91 _) g4 rfl dX9_readsPerson_38 ?_
    have hM := c_X9_kindOfLetter X  M (M 91 (Int32.toNatClampNeg v3)) _ h
    refine q_s0 (s1 := List.reverse [.int (M 91 (Int32.toNatClampNeg v3))] ++ [.int (3420 + v1), .ref (ad X 86)]) rfl ?_
    refine r_callSi (pc := 39) (As := [.int (M 91 (Int32.toNatClampNeg v3))]) (st := [.int (3420 + v1), .ref (ad X 86)]) C 1 hM aw362 aw363 aw364 aw5 yd_X9_kindOfLetter ⟨rfl, rfl⟩ ⟨Nat.le_of_ble_eq_true rfl, Nat.le_of_ble_eq_true rfl⟩ rfl (Nat.le_of_ble_eq_true rfl) dX9_readsPerson_39 (fun r6 M5 h => ?_)
    obtain ⟨g7, h⟩ := h
    refine q_iast (pc := 42) (k := 86) (n := 3528) (j := (Int32.toNatClampNeg (3420 + v1))) C (by decide) (ce86) g7 rfl dX9_readsPerson_42 ?_
    refine r_topM (fun M8 eM8 => ?_)
    replace h := h M8 eM8
    refine r_aload_n (pc := 43) C 1 dX9_readsPerson_43 rfl ?_
    refine r_dup (pc := 44) C dX9_readsPerson_44 rfl ?_
    refine r_get (pc := 45) (k := 85) (j := 12) (Cn := RX9) (T := TX9) (N := 21) C (by decide) (ce85 _) rfl iaX9 (by decide) aw324 rfl rfl dX9_readsPerson_45 ?_
    refine r_iconst (pc := 48) (v := 1) C dX9_readsPerson_48 (by decide) ?_
    refine r_iadd (pc := 49) C dX9_readsPerson_49 ?_
    refine r_topi (fun v9 ev9 => ?_)
    replace h := h v9 ev9
    refine r_put (pc := 50) (k := 85) (j := 12) (Cn := RX9) (T := TX9) (N := 21) (host := "") C (by decide) (ce85 _) rfl iaX9 (by decide) (ce85 _) tyX9_ok nmX9 aw324 rfl rfl (tyX9_ok 12 (by decide)) (Nat.le_of_ble_eq_true rfl) dX9_readsPerson_50 ?_
    refine r_topM (fun M10 eM10 => ?_)
    replace h := h M10 eM10
    refine r_aload_n (pc := 53) C 1 dX9_readsPerson_53 rfl ?_
    refine r_iconst (pc := 54) (v := 0) C dX9_readsPerson_54 (by decide) ?_
    refine r_aload_n (pc := 55) C 1 dX9_readsPerson_55 rfl ?_
    refine r_get (pc := 56) (k := 85) (j := 0) (Cn := RX9) (T := TX9) (N := 21) C (by decide) (ce85 _) rfl iaX9 (by decide) aw103 rfl rfl dX9_readsPerson_56 ?_
    refine r_sipush (pc := 59) (v := 3402) C dX9_readsPerson_59 (by decide) ?_
    refine q_iald (pc := 62) (k := 86) (n := 3528) (j := 3402) C (by decide) (ce86 _) (in_lit (by decide)) (by decide) dX9_readsPerson_62 ?_
    refine r_iconst (pc := 63) (v := 1) C dX9_readsPerson_63 (by decide) ?_
    refine r_isub (pc := 64) C dX9_readsPerson_64 ?_
    have hM := c_X9_readsNumber X  M10 0 ((M10 86 3402) - 1) _ h
    refine q_s0 (s1 := List.reverse [.int 0, .int ((M10 86 3402) - 1)] ++ .ref (ad X 85) :: []) rfl ?_
    refine r_callVi (pc := 65) (k := 85) (As := [.int 0, .int ((M10 86 3402) - 1)]) (st := []) C 2 (by decide) (ce85 _) rfl aw349 aw350 hM aw348 aw351 aw5 yd_X9_readsNumber ⟨rfl, rfl⟩ ⟨Nat.le_of_ble_eq_true rfl, Nat.le_of_ble_eq_true rfl⟩ rfl (Nat.le_of_ble_eq_true rfl) dX9_readsPerson_65 (fun r12 M11 h => ?_)
    refine r_if_ne (pc := 68) (tgt := 73) C dX9_readsPerson_68 (by decide) (fun c13 => ?_) (fun c13 => ?_)
    · have h := h.1 c13
      refine r_aload_n (pc := 73) C 1 dX9_readsPerson_73 rfl ?_
      refine r_get (pc := 74) (k := 85) (j := 0) (Cn := RX9) (T := TX9) (N := 21) C (by decide) (ce85 _) rfl iaX9 (by decide) aw103 rfl rfl dX9_readsPerson_74 ?_
      refine r_sipush (pc := 77) (v := 3426) C dX9_readsPerson_77 (by decide) ?_
      refine r_iload_n (pc := 80) C 0 dX9_readsPerson_80 rfl ?_
      refine r_iadd (pc := 81) C dX9_readsPerson_81 ?_
      refine r_aload_n (pc := 82) C 1 dX9_readsPerson_82 rfl ?_
      refine r_get (pc := 83) (k := 85) (j := 14) (Cn := RX9) (T := TX9) (N := 21) C (by decide) (ce85 _) rfl iaX9 (by decide) aw335 rfl rfl dX9_readsPerson_83 ?_
      refine r_topi (fun v14 ev14 => ?_)
      replace h := h v14 ev14
      obtain ⟨g15, h⟩ := h
      refine q_iast (pc := 86) (k := 86) (n := 3528) (j := (Int32.toNatClampNeg (3426 + v1))) C (by decide) (ce86) g15 rfl dX9_readsPerson_86 ?_
      refine r_topM (fun M16 eM16 => ?_)
      replace h := h M16 eM16
      refine r_aload_n (pc := 87) C 1 dX9_readsPerson_87 rfl ?_
      refine r_bipush (pc := 88) (v := 44) C dX9_readsPerson_88 (by decide) ?_
      have hM := c_X9_sign X  M16 44 _ h
      refine q_s0 (s1 := List.reverse [.int 44] ++ .ref (ad X 85) :: []) rfl ?_
      refine r_callVi (pc := 90) (k := 85) (As := [.int 44]) (st := []) C 1 (by decide) (ce85 _) rfl aw337 aw338 hM aw336 aw339 aw5 yd_X9_sign ⟨rfl, rfl⟩ ⟨Nat.le_of_ble_eq_true rfl, Nat.le_of_ble_eq_true rfl⟩ rfl (Nat.le_of_ble_eq_true rfl) dX9_readsPerson_90 (fun r18 M17 h => ?_)
      refine r_if_eq (pc := 93) (tgt := 106) C dX9_readsPerson_93 (by decide) (fun c19 => ?_) (fun c19 => ?_)
      · have h := h.1 c19
        refine r_iconst (pc := 106) (v := 0) C dX9_readsPerson_106 (by decide) ?_
        exact r_zret (pc := 107) C dX9_readsPerson_107 (Or.inl rfl) h
      · have h := h.2 c19
        refine r_aload_n (pc := 96) C 1 dX9_readsPerson_96 rfl ?_
        refine r_iconst (pc := 97) (v := 0) C dX9_readsPerson_97 (by decide) ?_
        refine r_bipush (pc := 98) (v := 6) C dX9_readsPerson_98 (by decide) ?_
        have hM := c_X9_readsNumber X  M17 0 6 _ h
        refine q_s0 (s1 := List.reverse [.int 0, .int 6] ++ .ref (ad X 85) :: []) rfl ?_
        refine r_callVi (pc := 100) (k := 85) (As := [.int 0, .int 6]) (st := []) C 2 (by decide) (ce85 _) rfl aw349 aw350 hM aw348 aw351 aw5 yd_X9_readsNumber ⟨rfl, rfl⟩ ⟨Nat.le_of_ble_eq_true rfl, Nat.le_of_ble_eq_true rfl⟩ rfl (Nat.le_of_ble_eq_true rfl) dX9_readsPerson_100 (fun r21 M20 h => ?_)
        refine r_if_ne (pc := 103) (tgt := 108) C dX9_readsPerson_103 (by decide) (fun c22 => ?_) (fun c22 => ?_)
        · have h := h.1 c22
          refine r_aload_n (pc := 108) C 1 dX9_readsPerson_108 rfl ?_
          refine r_get (pc := 109) (k := 85) (j := 0) (Cn := RX9) (T := TX9) (N := 21) C (by decide) (ce85 _) rfl iaX9 (by decide) aw103 rfl rfl dX9_readsPerson_109 ?_
          refine r_sipush (pc := 112) (v := 3432) C dX9_readsPerson_112 (by decide) ?_
          refine r_iload_n (pc := 115) C 0 dX9_readsPerson_115 rfl ?_
          refine r_iadd (pc := 116) C dX9_readsPerson_116 ?_
          refine r_aload_n (pc := 117) C 1 dX9_readsPerson_117 rfl ?_
          refine r_get (pc := 118) (k := 85) (j := 14) (Cn := RX9) (T := TX9) (N := 21) C (by decide) (ce85 _) rfl iaX9 (by decide) aw335 rfl rfl dX9_readsPerson_118 ?_
          refine r_topi (fun v23 ev23 => ?_)
          replace h := h v23 ev23
          obtain ⟨g24, h⟩ := h
          refine q_iast (pc := 121) (k := 86) (n := 3528) (j := (Int32.toNatClampNeg (3432 + v1))) C (by decide) (ce86) g24 rfl dX9_readsPerson_121 ?_
          refine r_topM (fun M25 eM25 => ?_)
          replace h := h M25 eM25
          refine r_aload_n (pc := 122) C 1 dX9_readsPerson_122 rfl ?_
          refine r_get (pc := 123) (k := 85) (j := 0) (Cn := RX9) (T := TX9) (N := 21) C (by decide) (ce85 _) rfl iaX9 (by decide) aw103 rfl rfl dX9_readsPerson_123 ?_
          refine r_sipush (pc := 126) (v := 3405) C dX9_readsPerson_126 (by decide) ?_
          refine r_dup2 (pc := 129) C dX9_readsPerson_129 rfl rfl ?_
          refine q_iald (pc := 130) (k := 86) (n := 3528) (j := 3405) C (by decide) (ce86 _) (in_lit (by decide)) (by decide) dX9_readsPerson_130 ?_
          refine r_iconst (pc := 131) (v := 1) C dX9_readsPerson_131 (by decide) ?_
          refine r_iadd (pc := 132) C dX9_readsPerson_132 ?_
          refine r_topi (fun v26 ev26 => ?_)
          replace h := h v26 ev26
          refine q_iast (pc := 133) (k := 86) (n := 3528) (j := 3405) C (by decide) (ce86) (in_lit (by decide)) (by decide) dX9_readsPerson_133 ?_
          refine r_topM (fun M27 eM27 => ?_)
          replace h := h M27 eM27
          refine r_aload_n (pc := 134) C 1 dX9_readsPerson_134 rfl ?_
          refine r_bipush (pc := 135) (v := 59) C dX9_readsPerson_135 (by decide) ?_
          have hM := c_X9_sign X  M27 59 _ h
          refine q_s0 (s1 := List.reverse [.int 59] ++ .ref (ad X 85) :: []) rfl ?_
          refine r_callVi (pc := 137) (k := 85) (As := [.int 59]) (st := []) C 1 (by decide) (ce85 _) rfl aw337 aw338 hM aw336 aw339 aw5 yd_X9_sign ⟨rfl, rfl⟩ ⟨Nat.le_of_ble_eq_true rfl, Nat.le_of_ble_eq_true rfl⟩ rfl (Nat.le_of_ble_eq_true rfl) dX9_readsPerson_137 (fun r29 M28 h => ?_)
          exact r_zret (pc := 140) C dX9_readsPerson_140 h.1 h.2
        · have h := h.2 c22
          refine r_iconst (pc := 106) (v := 0) C dX9_readsPerson_106 (by decide) ?_
          exact r_zret (pc := 107) C dX9_readsPerson_107 (Or.inl rfl) h
    · have h := h.2 c13
      refine r_iconst (pc := 71) (v := 0) C dX9_readsPerson_71 (by decide) ?_
      exact r_zret (pc := 72) C dX9_readsPerson_72 (Or.inl rfl) h
  · have h := h.2 c2
    refine r_aload_n (pc := 15) C 1 dX9_readsPerson_15 rfl ?_
    refine r_iconst (pc := 16) (v := 3) C dX9_readsPerson_16 (by decide) ?_
    have hM := c_X9_refuse X  M 3 _ h
    refine q_s0 (s1 := List.reverse [.int 3] ++ .ref (ad X 85) :: []) rfl ?_
    refine r_callVi (pc := 17) (k := 85) (As := [.int 3]) (st := []) C 1 (by decide) (ce85 _) rfl aw345 aw346 hM aw344 aw347 aw5 yd_X9_refuse ⟨rfl, rfl⟩ ⟨Nat.le_of_ble_eq_true rfl, Nat.le_of_ble_eq_true rfl⟩ rfl (Nat.le_of_ble_eq_true rfl) dX9_readsPerson_17 (fun r31 M30 h => ?_)
    exact r_zret (pc := 20) C dX9_readsPerson_20 h.1 h.2
theorem yd_X9_readsTie : yX9_readsTie.cls ≠ "java/lang/invoke/MethodHandle" ∧ yX9_readsTie.cls ≠ "java/lang/invoke/VarHandle" ∧ (parseMethodDescriptor yX9_readsTie.desc).map (fun d => d.parameters.length) = some 0 := by decide +kernel
def wJ_X9_readsTie_43  (Q : Int32 → Mem → Prop)  (M : Mem) (s0 : Int32) (s1 : Int32) : Prop :=
  ∀ v1 : Int32, v1 = (s0 + s1) → (∀ v2 : Int32, v2 = ((M 85 12) + 1) → (∀ M3 : Mem, M3 = ms M 85 12 v2 → (w_X9_readsNumber  M3 0 ((M3 86 3405) - 1) (fun r5 M4 => ((¬ r5 = 0) → (∀ v7 : Int32, v7 = (M4 85 14) → (w_X9_sign  M4 44 (fun r9 M8 => ((¬ r9 = 0) → (∀ v11 : Int32, v11 = (M8 85 12) → (w_X9_readsNumber  M8 0 ((M8 86 3405) - 1) (fun r13 M12 => ((¬ r13 = 0) → (∀ v15 : Int32, v15 = (3444 + v7) → (vp_in v15 3528 ∧ (∀ v17 : Int32, v17 = (3450 + v7) → (vp_in v17 3528 ∧ (∀ v19 : Int32, v19 = ((M12 86 (Int32.toNatClampNeg v15)) ||| (M12 86 (Int32.toNatClampNeg v17))) → ((((M12 85 14) = v7) → (∀ M21 : Mem, M21 = ms M12 85 12 v11 → (w_X9_refuse  M21 2 (fun r23 M22 => vz r23 ∧ Q r23 M22)))) ∧ ((¬ (M12 85 14) = v7) → (w_X9_has  M12 v19 (M12 85 14) (fun r25 M24 => ((r25 = 0) → (∀ v27 : Int32, v27 = (v1 + v7) → (vp_in v27 3528 ∧ (∀ v29 : Int32, v29 = ((M24 86 (Int32.toNatClampNeg v27)) ||| (1 <<< ((M24 85 14) &&& 31))) → (vp_in v27 3528 ∧ (∀ M31 : Mem, M31 = ms M24 86 (Int32.toNatClampNeg v27) v29 → (∀ v32 : Int32, v32 = (v1 + (M31 85 14)) → (vp_in v32 3528 ∧ (∀ v34 : Int32, v34 = ((M31 86 (Int32.toNatClampNeg v32)) ||| (1 <<< (v7 &&& 31))) → (vp_in v32 3528 ∧ (∀ M36 : Mem, M36 = ms M31 86 (Int32.toNatClampNeg v32) v34 → (∀ v37 : Int32, v37 = ((M36 86 3407) + 1) → (∀ M38 : Mem, M38 = ms M36 86 3407 v37 → (w_X9_sign  M38 59 (fun r40 M39 => vz r40 ∧ Q r40 M39))))))))))))))) ∧ ((¬ r25 = 0) → (∀ M41 : Mem, M41 = ms M24 85 12 v11 → (w_X9_refuse  M41 2 (fun r43 M42 => vz r43 ∧ Q r43 M42)))))))))))))) ∧ ((r13 = 0) → (Q 0 M12)))))) ∧ ((r9 = 0) → (Q 0 M8)))))) ∧ ((r5 = 0) → (Q 0 M4))))))
def w_X9_readsTie  (M : Mem)  (Q : Int32 → Mem → Prop) : Prop :=
  ((¬ (M 86 3407) = 8) → (∀ v2 : Int32, v2 = (M 85 12) → (vp_in v2 120 ∧ (((¬ (M 91 (Int32.toNatClampNeg v2)) = 105) → (wJ_X9_readsTie_43  Q  M 3402 48)) ∧ (((M 91 (Int32.toNatClampNeg v2)) = 105) → (wJ_X9_readsTie_43  Q  M 3402 42)))))) ∧ (((M 86 3407) = 8) → (w_X9_refuse  M 3 (fun r6 M5 => vz r6 ∧ Q r6 M5)))
abbrev rm_X9_readsTie : Room := { frames := 12, cells := 0, slots := 0, locals := 240 }
set_option maxHeartbeats 4000000 in
set_option maxRecDepth 100000 in
theorem c_X9_readsTie (X : Cx)  (M : Mem)  (Q : Int32 → Mem → Prop) (h : w_X9_readsTie  M  Q) : Ct yX9_readsTie cX9_readsTie 5 (some .boolean) rm_X9_readsTie X M [.ref (ad X 85)] (Qi X Q) := by
  refine ct_of (own := RX9) (lv := [(0, .ref (ad X 85))]) rfl (by decide) (Nat.le_of_ble_eq_true rfl) rfl ?_
  intro K C
  have hJ43 : ∀  (M : Mem) (s0 : Int32) (s1 : Int32), wJ_X9_readsTie_43  Q  M s0 s1 → WX K X 5 (Qi X Q) M 43 [(0, .ref (ad X 85))] [.int s1, .int s0] := by
    intro  M s0 s1 h
    unfold wJ_X9_readsTie_43 at h
    refine r_iadd (pc := 43) C dX9_readsTie_43 ?_
    refine r_topi (fun v1 ev1 => ?_)
    replace h := h v1 ev1
    refine r_istore_n (pc := 44) (lv2 := [(1, .int v1), (0, .ref (ad X 85))]) C dX9_readsTie_44 (by decide) rfl ?_
    refine r_aload_n (pc := 45) C 1 dX9_readsTie_45 rfl ?_
    refine r_dup (pc := 46) C dX9_readsTie_46 rfl ?_
    refine r_get (pc := 47) (k := 85) (j := 12) (Cn := RX9) (T := TX9) (N := 21) C (by decide) (ce85 _) rfl iaX9 (by decide) aw324 rfl rfl dX9_readsTie_47 ?_
    refine r_iconst (pc := 50) (v := 1) C dX9_readsTie_50 (by decide) ?_
    refine r_iadd (pc := 51) C dX9_readsTie_51 ?_
    refine r_topi (fun v2 ev2 => ?_)
    replace h := h v2 ev2
    refine r_put (pc := 52) (k := 85) (j := 12) (Cn := RX9) (T := TX9) (N := 21) (host := "") C (by decide) (ce85 _) rfl iaX9 (by decide) (ce85 _) tyX9_ok nmX9 aw324 rfl rfl (tyX9_ok 12 (by decide)) (Nat.le_of_ble_eq_true rfl) dX9_readsTie_52 ?_
    refine r_topM (fun M3 eM3 => ?_)
    replace h := h M3 eM3
    refine r_aload_n (pc := 55) C 1 dX9_readsTie_55 rfl ?_
    refine r_iconst (pc := 56) (v := 0) C dX9_readsTie_56 (by decide) ?_
    refine r_aload_n (pc := 57) C 1 dX9_readsTie_57 rfl ?_
    refine r_get (pc := 58) (k := 85) (j := 0) (Cn := RX9) (T := TX9) (N := 21) C (by decide) (ce85 _) rfl iaX9 (by decide) aw103 rfl rfl dX9_readsTie_58 ?_
    refine r_sipush (pc := 61) (v := 3405) C dX9_readsTie_61 (by decide) ?_
    refine q_iald (pc := 64) (k := 86) (n := 3528) (j := 3405) C (by decide) (ce86 _) (in_lit (by decide)) (by decide) dX9_readsTie_64 ?_
    refine r_iconst (pc := 65) (v := 1) C dX9_readsTie_65 (by decide) ?_
    refine r_isub (pc := 66) C dX9_readsTie_66 ?_
    have hM := c_X9_readsNumber X  M3 0 ((M3 86 3405) - 1) _ h
    refine q_s0 (s1 := List.reverse [.int 0, .int ((M3 86 3405) - 1)] ++ .ref (ad X 85) :: []) rfl ?_
    refine r_callVi (pc := 67) (k := 85) (As := [.int 0, .int ((M3 86 3405) - 1)]) (st := []) C 2 (by decide) (ce85 _) rfl aw349 aw350 hM aw348 aw351 aw5 yd_X9_readsNumber ⟨rfl, rfl⟩ ⟨Nat.le_of_ble_eq_true rfl, Nat.le_of_ble_eq_true rfl⟩ rfl (Nat.le_of_ble_eq_true rfl) dX9_readsTie_67 (fun r5 M4 h => ?_)
    refine r_if_ne (pc := 70) (tgt := 75) C dX9_readsTie_70 (by decide) (fun c6 => ?_) (fun c6 => ?_)
    · have h := h.1 c6
      refine r_aload_n (pc := 75) C 1 dX9_readsTie_75 rfl ?_
      refine r_get (pc := 76) (k := 85) (j := 14) (Cn := RX9) (T := TX9) (N := 21) C (by decide) (ce85 _) rfl iaX9 (by decide) aw335 rfl rfl dX9_readsTie_76 ?_
      refine r_topi (fun v7 ev7 => ?_)
      replace h := h v7 ev7
      refine r_istore_n (pc := 79) (lv2 := [(2, .int v7), (1, .int v1), (0, .ref (ad X 85))]) C dX9_readsTie_79 (by decide) rfl ?_
      refine r_aload_n (pc := 80) C 2 dX9_readsTie_80 rfl ?_
      refine r_bipush (pc := 81) (v := 44) C dX9_readsTie_81 (by decide) ?_
      have hM := c_X9_sign X  M4 44 _ h
      refine q_s0 (s1 := List.reverse [.int 44] ++ .ref (ad X 85) :: []) rfl ?_
      refine r_callVi (pc := 83) (k := 85) (As := [.int 44]) (st := []) C 1 (by decide) (ce85 _) rfl aw337 aw338 hM aw336 aw339 aw5 yd_X9_sign ⟨rfl, rfl⟩ ⟨Nat.le_of_ble_eq_true rfl, Nat.le_of_ble_eq_true rfl⟩ rfl (Nat.le_of_ble_eq_true rfl) dX9_readsTie_83 (fun r9 M8 h => ?_)
      refine r_if_ne (pc := 86) (tgt := 91) C dX9_readsTie_86 (by decide) (fun c10 => ?_) (fun c10 => ?_)
      · have h := h.1 c10
        refine r_aload_n (pc := 91) C 2 dX9_readsTie_91 rfl ?_
        refine r_get (pc := 92) (k := 85) (j := 12) (Cn := RX9) (T := TX9) (N := 21) C (by decide) (ce85 _) rfl iaX9 (by decide) aw324 rfl rfl dX9_readsTie_92 ?_
        refine r_topi (fun v11 ev11 => ?_)
        replace h := h v11 ev11
        refine r_istore_n (pc := 95) (lv2 := [(3, .int v11), (2, .int v7), (1, .int v1), (0, .ref (ad X 85))]) C dX9_readsTie_95 (by decide) rfl ?_
        refine r_aload_n (pc := 96) C 3 dX9_readsTie_96 rfl ?_
        refine r_iconst (pc := 97) (v := 0) C dX9_readsTie_97 (by decide) ?_
        refine r_aload_n (pc := 98) C 3 dX9_readsTie_98 rfl ?_
        refine r_get (pc := 99) (k := 85) (j := 0) (Cn := RX9) (T := TX9) (N := 21) C (by decide) (ce85 _) rfl iaX9 (by decide) aw103 rfl rfl dX9_readsTie_99 ?_
        refine r_sipush (pc := 102) (v := 3405) C dX9_readsTie_102 (by decide) ?_
        refine q_iald (pc := 105) (k := 86) (n := 3528) (j := 3405) C (by decide) (ce86 _) (in_lit (by decide)) (by decide) dX9_readsTie_105 ?_
        refine r_iconst (pc := 106) (v := 1) C dX9_readsTie_106 (by decide) ?_
        refine r_isub (pc := 107) C dX9_readsTie_107 ?_
        have hM := c_X9_readsNumber X  M8 0 ((M8 86 3405) - 1) _ h
        refine q_s0 (s1 := List.reverse [.int 0, .int ((M8 86 3405) - 1)] ++ .ref (ad X 85) :: []) rfl ?_
        refine r_callVi (pc := 108) (k := 85) (As := [.int 0, .int ((M8 86 3405) - 1)]) (st := []) C 2 (by decide) (ce85 _) rfl aw349 aw350 hM aw348 aw351 aw5 yd_X9_readsNumber ⟨rfl, rfl⟩ ⟨Nat.le_of_ble_eq_true rfl, Nat.le_of_ble_eq_true rfl⟩ rfl (Nat.le_of_ble_eq_true rfl) dX9_readsTie_108 (fun r13 M12 h => ?_)
        refine r_if_ne (pc := 111) (tgt := 116) C dX9_readsTie_111 (by decide) (fun c14 => ?_) (fun c14 => ?_)
        · have h := h.1 c14
          refine r_aload_n (pc := 116) C 3 dX9_readsTie_116 rfl ?_
          refine r_get (pc := 117) (k := 85) (j := 0) (Cn := RX9) (T := TX9) (N := 21) C (by decide) (ce85 _) rfl iaX9 (by decide) aw103 rfl rfl dX9_readsTie_117 ?_
          refine r_sipush (pc := 120) (v := 3444) C dX9_readsTie_120 (by decide) ?_
          refine r_iload_n (pc := 123) C 1 dX9_readsTie_123 rfl ?_
          refine r_iadd (pc := 124) C dX9_readsTie_124 ?_
          refine r_topi (fun v15 ev15 => ?_)
          replace h := h v15 ev15
          obtain ⟨g16, h⟩ := h
          refine q_iald (pc := 125) (k := 86) (n := 3528) (j := (Int32.toNatClampNeg v15)) C (by decide) (ce86 _) g16 rfl dX9_readsTie_125 ?_
          refine r_aload_n (pc := 126) C 3 dX9_readsTie_126 rfl ?_
          refine r_get (pc := 127) (k := 85) (j := 0) (Cn := RX9) (T := TX9) (N := 21) C (by decide) (ce85 _) rfl iaX9 (by decide) aw103 rfl rfl dX9_readsTie_127 ?_
          refine r_sipush (pc := 130) (v := 3450) C dX9_readsTie_130 (by decide) ?_
          refine r_iload_n (pc := 133) C 1 dX9_readsTie_133 rfl ?_
          refine r_iadd (pc := 134) C dX9_readsTie_134 ?_
          refine r_topi (fun v17 ev17 => ?_)
          replace h := h v17 ev17
          obtain ⟨g18, h⟩ := h
          refine q_iald (pc := 135) (k := 86) (n := 3528) (j := (Int32.toNatClampNeg v17)) C (by decide) (ce86 _) g18 rfl dX9_readsTie_135 ?_
          refine r_ior (pc := 136) C dX9_readsTie_136 ?_
          refine r_topi (fun v19 ev19 => ?_)
          replace h := h v19 ev19
          refine r_istore (pc := 137) (lv2 := [(4, .int v19), (3, .int v11), (2, .int v7), (1, .int v1), (0, .ref (ad X 85))]) C dX9_readsTie_137 (by decide) rfl ?_
          refine r_aload_n (pc := 139) C 4 dX9_readsTie_139 rfl ?_
          refine r_get (pc := 140) (k := 85) (j := 14) (Cn := RX9) (T := TX9) (N := 21) C (by decide) (ce85 _) rfl iaX9 (by decide) aw335 rfl rfl dX9_readsTie_140 ?_
          refine r_iload_n (pc := 143) C 2 dX9_readsTie_143 rfl ?_
          refine r_icmp_eq (pc := 144) (tgt := 159) C dX9_readsTie_144 (by decide) (fun c20 => ?_) (fun c20 => ?_)
          · have h := h.1 c20
            refine r_aload_n (pc := 159) C 4 dX9_readsTie_159 rfl ?_
            refine r_iload_n (pc := 160) C 1 dX9_readsTie_160 rfl ?_
            refine r_put (pc := 161) (k := 85) (j := 12) (Cn := RX9) (T := TX9) (N := 21) (host := "") C (by decide) (ce85 _) rfl iaX9 (by decide) (ce85 _) tyX9_ok nmX9 aw324 rfl rfl (tyX9_ok 12 (by decide)) (Nat.le_of_ble_eq_true rfl) dX9_readsTie_161 ?_
            refine r_topM (fun M21 eM21 => ?_)
            replace h := h M21 eM21
            refine r_aload_n (pc := 164) C 4 dX9_readsTie_164 rfl ?_
            refine r_iconst (pc := 165) (v := 2) C dX9_readsTie_165 (by decide) ?_
            have hM := c_X9_refuse X  M21 2 _ h
            refine q_s0 (s1 := List.reverse [.int 2] ++ .ref (ad X 85) :: []) rfl ?_
            refine r_callVi (pc := 166) (k := 85) (As := [.int 2]) (st := []) C 1 (by decide) (ce85 _) rfl aw345 aw346 hM aw344 aw347 aw5 yd_X9_refuse ⟨rfl, rfl⟩ ⟨Nat.le_of_ble_eq_true rfl, Nat.le_of_ble_eq_true rfl⟩ rfl (Nat.le_of_ble_eq_true rfl) dX9_readsTie_166 (fun r23 M22 h => ?_)
            exact r_zret (pc := 169) C dX9_readsTie_169 h.1 h.2
          · have h := h.2 c20
            refine r_iload (pc := 147) C 0 dX9_readsTie_147 rfl ?_
            refine r_aload_n (pc := 149) C 4 dX9_readsTie_149 rfl ?_
            refine r_get (pc := 150) (k := 85) (j := 14) (Cn := RX9) (T := TX9) (N := 21) C (by decide) (ce85 _) rfl iaX9 (by decide) aw335 rfl rfl dX9_readsTie_150 ?_
            have hM := c_X9_has X  M12 v19 (M12 85 14) _ h
            refine q_s0 (s1 := List.reverse [.int v19, .int (M12 85 14)] ++ []) rfl ?_
            refine r_callSi (pc := 153) (As := [.int v19, .int (M12 85 14)]) (st := []) C 2 hM aw373 aw374 aw375 aw5 yd_X9_has ⟨rfl, rfl⟩ ⟨Nat.le_of_ble_eq_true rfl, Nat.le_of_ble_eq_true rfl⟩ rfl (Nat.le_of_ble_eq_true rfl) dX9_readsTie_153 (fun r25 M24 h => ?_)
            refine r_if_eq (pc := 156) (tgt := 170) C dX9_readsTie_156 (by decide) (fun c26 => ?_) (fun c26 => ?_)
            · have h := h.1 c26
              refine r_aload_n (pc := 170) C 4 dX9_readsTie_170 rfl ?_
              refine r_get (pc := 171) (k := 85) (j := 0) (Cn := RX9) (T := TX9) (N := 21) C (by decide) (ce85 _) rfl iaX9 (by decide) aw103 rfl rfl dX9_readsTie_171 ?_
              refine r_iload_n (pc := 174) C 3 dX9_readsTie_174 rfl ?_
              refine r_iload_n (pc := 175) C 2 dX9_readsTie_175 rfl ?_
              refine r_iadd (pc := 176) C dX9_readsTie_176 ?_
              refine r_topi (fun v27 ev27 => ?_)
              replace h := h v27 ev27
              refine r_dup2 (pc := 177) C dX9_readsTie_177 rfl rfl ?_
              obtain ⟨g28, h⟩ := h
              refine q_iald (pc := 178) (k := 86) (n := 3528) (j := (Int32.toNatClampNeg v27)) C (by decide) (ce86 _) g28 rfl dX9_readsTie_178 ?_
              refine r_iconst (pc := 179) (v := 1) C dX9_readsTie_179 (by decide) ?_
              refine r_aload_n (pc := 180) C 4 dX9_readsTie_180 rfl ?_
              refine r_get (pc := 181) (k := 85) (j := 14) (Cn := RX9) (T := TX9) (N := 21) C (by decide) (ce85 _) rfl iaX9 (by decide) aw335 rfl rfl dX9_readsTie_181 ?_
              refine r_ishl (pc := 184) C dX9_readsTie_184 ?_
              refine r_ior (pc := 185) C dX9_readsTie_185 ?_
              refine r_topi (fun v29 ev29 => ?_)
              replace h := h v29 ev29
              obtain ⟨g30, h⟩ := h
              refine q_iast (pc := 186) (k := 86) (n := 3528) (j := (Int32.toNatClampNeg v27)) C (by decide) (ce86) g30 rfl dX9_readsTie_186 ?_
              refine r_topM (fun M31 eM31 => ?_)
              replace h := h M31 eM31
              refine r_aload_n (pc := 187) C 4 dX9_readsTie_187 rfl ?_
              refine r_get (pc := 188) (k := 85) (j := 0) (Cn := RX9) (T := TX9) (N := 21) C (by decide) (ce85 _) rfl iaX9 (by decide) aw103 rfl rfl dX9_readsTie_188 ?_
              refine r_iload_n (pc := 191) C 3 dX9_readsTie_191 rfl ?_
              refine r_aload_n (pc := 192) C 4 dX9_readsTie_192 rfl ?_
              refine r_get (pc := 193) (k := 85) (j := 14) (Cn := RX9) (T := TX9) (N := 21) C (by decide) (ce85 _) rfl iaX9 (by decide) aw335 rfl rfl dX9_readsTie_193 ?_
              refine r_iadd (pc := 196) C dX9_readsTie_196 ?_
              refine r_topi (fun v32 ev32 => ?_)
              replace h := h v32 ev32
              refine r_dup2 (pc := 197) C dX9_readsTie_197 rfl rfl ?_
              obtain ⟨g33, h⟩ := h
              refine q_iald (pc := 198) (k := 86) (n := 3528) (j := (Int32.toNatClampNeg v32)) C (by decide) (ce86 _) g33 rfl dX9_readsTie_198 ?_
              refine r_iconst (pc := 199) (v := 1) C dX9_readsTie_199 (by decide) ?_
              refine r_iload_n (pc := 200) C 2 dX9_readsTie_200 rfl ?_
              refine r_ishl (pc := 201) C dX9_readsTie_201 ?_
              refine r_ior (pc := 202) C dX9_readsTie_202 ?_
              refine r_topi (fun v34 ev34 => ?_)
              replace h := h v34 ev34
              obtain ⟨g35, h⟩ := h
              refine q_iast (pc := 203) (k := 86) (n := 3528) (j := (Int32.toNatClampNeg v32)) C (by decide) (ce86) g35 rfl dX9_readsTie_203 ?_
              refine r_topM (fun M36 eM36 => ?_)
              replace h := h M36 eM36
              refine r_aload_n (pc := 204) C 4 dX9_readsTie_204 rfl ?_
              refine r_get (pc := 205) (k := 85) (j := 0) (Cn := RX9) (T := TX9) (N := 21) C (by decide) (ce85 _) rfl iaX9 (by decide) aw103 rfl rfl dX9_readsTie_205 ?_
              refine r_sipush (pc := 208) (v := 3407) C dX9_readsTie_208 (by decide) ?_
              refine r_dup2 (pc := 211) C dX9_readsTie_211 rfl rfl ?_
              refine q_iald (pc := 212) (k := 86) (n := 3528) (j := 3407) C (by decide) (ce86 _) (in_lit (by decide)) (by decide) dX9_readsTie_212 ?_
              refine r_iconst (pc := 213) (v := 1) C dX9_readsTie_213 (by decide) ?_
              refine r_iadd (pc := 214) C dX9_readsTie_214 ?_
              refine r_topi (fun v37 ev37 => ?_)
              replace h := h v37 ev37
              refine q_iast (pc := 215) (k := 86) (n := 3528) (j := 3407) C (by decide) (ce86) (in_lit (by decide)) (by decide) dX9_readsTie_215 ?_
              refine r_topM (fun M38 eM38 => ?_)
              replace h := h M38 eM38
              refine r_aload_n (pc := 216) C 4 dX9_readsTie_216 rfl ?_
              refine r_bipush (pc := 217) (v := 59) C dX9_readsTie_217 (by decide) ?_
              have hM := c_X9_sign X  M38 59 _ h
              refine q_s0 (s1 := List.reverse [.int 59] ++ .ref (ad X 85) :: []) rfl ?_
              refine r_callVi (pc := 219) (k := 85) (As := [.int 59]) (st := []) C 1 (by decide) (ce85 _) rfl aw337 aw338 hM aw336 aw339 aw5 yd_X9_sign ⟨rfl, rfl⟩ ⟨Nat.le_of_ble_eq_true rfl, Nat.le_of_ble_eq_true rfl⟩ rfl (Nat.le_of_ble_eq_true rfl) dX9_readsTie_219 (fun r40 M39 h => ?_)
              exact r_zret (pc := 222) C dX9_readsTie_222 h.1 h.2
            · have h := h.2 c26
              refine r_aload_n (pc := 159) C 4 dX9_readsTie_159 rfl ?_
              refine r_iload_n (pc := 160) C 1 dX9_readsTie_160 rfl ?_
              refine r_put (pc := 161) (k := 85) (j := 12) (Cn := RX9) (T := TX9) (N := 21) (host := "") C (by decide) (ce85 _) rfl iaX9 (by decide) (ce85 _) tyX9_ok nmX9 aw324 rfl rfl (tyX9_ok 12 (by decide)) (Nat.le_of_ble_eq_true rfl) dX9_readsTie_161 ?_
              refine r_topM (fun M41 eM41 => ?_)
              replace h := h M41 eM41
              refine r_aload_n (pc := 164) C 4 dX9_readsTie_164 rfl ?_
              refine r_iconst (pc := 165) (v := 2) C dX9_readsTie_165 (by decide) ?_
              have hM := c_X9_refuse X  M41 2 _ h
              refine q_s0 (s1 := List.reverse [.int 2] ++ .ref (ad X 85) :: []) rfl ?_
              refine r_callVi (pc := 166) (k := 85) (As := [.int 2]) (st := []) C 1 (by decide) (ce85 _) rfl aw345 aw346 hM aw344 aw347 aw5 yd_X9_refuse ⟨rfl, rfl⟩ ⟨Nat.le_of_ble_eq_true rfl, Nat.le_of_ble_eq_true rfl⟩ rfl (Nat.le_of_ble_eq_true rfl) dX9_readsTie_166 (fun r43 M42 h => ?_)
              exact r_zret (pc := 169) C dX9_readsTie_169 h.1 h.2
        · have h := h.2 c14
          refine r_iconst (pc := 114) (v := 0) C dX9_readsTie_114 (by decide) ?_
          exact r_zret (pc := 115) C dX9_readsTie_115 (Or.inl rfl) h
      · have h := h.2 c10
        refine r_iconst (pc := 89) (v := 0) C dX9_readsTie_89 (by decide) ?_
        exact r_zret (pc := 90) C dX9_readsTie_90 (Or.inl rfl) h
    · have h := h.2 c6
      refine r_iconst (pc := 73) (v := 0) C dX9_readsTie_73 (by decide) ?_
      exact r_zret (pc := 74) C dX9_readsTie_74 (Or.inl rfl) h
  unfold w_X9_readsTie at h
  refine r_aload_n (pc := 0) C 0 dX9_readsTie_0 rfl ?_
  refine r_get (pc := 1) (k := 85) (j := 0) (Cn := RX9) (T := TX9) (N := 21) C (by decide) (ce85 _) rfl iaX9 (by decide) aw103 rfl rfl dX9_readsTie_1 ?_
  refine r_sipush (pc := 4) (v := 3407) C dX9_readsTie_4 (by decide) ?_
  refine q_iald (pc := 7) (k := 86) (n := 3528) (j := 3407) C (by decide) (ce86 _) (in_lit (by decide)) (by decide) dX9_readsTie_7 ?_
  refine r_bipush (pc := 8) (v := 8) C dX9_readsTie_8 (by decide) ?_
  refine r_icmp_ne (pc := 10) (tgt := 19) C dX9_readsTie_10 (by decide) (fun c1 => ?_) (fun c1 => ?_)
  · have h := h.1 c1
    refine r_sipush (pc := 19) (v := 3402) C dX9_readsTie_19 (by decide) ?_
    refine r_aload_n (pc := 22) C 0 dX9_readsTie_22 rfl ?_
    refine r_get (pc := 23) (k := 85) (j := 6) (Cn := RX9) (T := TX9) (N := 21) C (by decide) (ce85 _) rfl iaX9 (by decide) aw109 rfl rfl dX9_readsTie_23 ?_
    refine r_aload_n (pc := 26) C 0 dX9_readsTie_26 rfl ?_
    refine r_get (pc := 27) (k := 85) (j := 12) (Cn := RX9) (T := TX9) (N := 21) C (by decide) (ce85 _) rfl iaX9 (by decide) aw324 rfl rfl dX9_readsTie_27 ?_
    refine r_topi (fun v2 ev2 => ?_)
    replace h := h v2 ev2
    obtain ⟨g3, h⟩ := h
    refine q_iald (pc := 30) (k := 91) (n := 120) (j := (Int32.toNatClampNeg v2)) C (by decide) (ce91 _) g3 rfl dX9_readsTie_30 ?_
    refine r_bipush (pc := 31) (v := 105) C dX9_readsTie_31 (by decide) ?_
    refine r_icmp_ne (pc := 33) (tgt := 41) C dX9_readsTie_33 (by decide) (fun c4 => ?_) (fun c4 => ?_)
    · have h := h.1 c4
      refine r_bipush (pc := 41) (v := 48) C dX9_readsTie_41 (by decide) ?_
      refine r_sub (lv2 := [(0, .ref (ad X 85))]) [0] rfl ?_
      exact hJ43  _ _ _ h
    · have h := h.2 c4
      refine r_bipush (pc := 36) (v := 42) C dX9_readsTie_36 (by decide) ?_
      refine r_goto (pc := 38) (tgt := 43) C dX9_readsTie_38 (by decide) ?_
      refine r_sub (lv2 := [(0, .ref (ad X 85))]) [0] rfl ?_
      exact hJ43  _ _ _ h
  · have h := h.2 c1
    refine r_aload_n (pc := 13) C 0 dX9_readsTie_13 rfl ?_
    refine r_iconst (pc := 14) (v := 3) C dX9_readsTie_14 (by decide) ?_
    have hM := c_X9_refuse X  M 3 _ h
    refine q_s0 (s1 := List.reverse [.int 3] ++ .ref (ad X 85) :: []) rfl ?_
    refine r_callVi (pc := 15) (k := 85) (As := [.int 3]) (st := []) C 1 (by decide) (ce85 _) rfl aw345 aw346 hM aw344 aw347 aw5 yd_X9_refuse ⟨rfl, rfl⟩ ⟨Nat.le_of_ble_eq_true rfl, Nat.le_of_ble_eq_true rfl⟩ rfl (Nat.le_of_ble_eq_true rfl) dX9_readsTie_15 (fun r6 M5 h => ?_)
    exact r_zret (pc := 18) C dX9_readsTie_18 h.1 h.2
theorem yd_X9_reads : yX9_reads.cls ≠ "java/lang/invoke/MethodHandle" ∧ yX9_reads.cls ≠ "java/lang/invoke/VarHandle" ∧ (parseMethodDescriptor yX9_reads.desc).map (fun d => d.parameters.length) = some 0 := by decide +kernel
def wJ_X9_reads_190  (Q : Int32 → Mem → Prop)  (M : Mem) (x1 : Int32) : Prop :=
  ((x1 = 0) → (Q 0 M)) ∧ ((¬ x1 = 0) → ((((M 85 12) = (M 85 7)) → (Q 1 M)) ∧ ((¬ (M 85 12) = (M 85 7)) → (w_X9_refuse  M 1 (fun r4 M3 => ((r4 = 0) → (Q 0 M3)) ∧ ((¬ r4 = 0) → (Q 1 M3)))))))
def wB_X9_reads_160  (Q : Int32 → Mem → Prop)  (R160 : Mem → Int32 → Prop) (M : Mem) (x1 : Int32) : Prop :=
  ((x1 = 0) → (wJ_X9_reads_190  Q  M x1)) ∧ ((¬ x1 = 0) → (w_X9_isLetter  M 105 (fun r3 M2 => ((¬ r3 = 0) → (w_X9_readsTie  M2  (fun r6 M5 => R160 M5 r6))) ∧ ((r3 = 0) → (w_X9_isLetter  M2 117 (fun r8 M7 => ((r8 = 0) → (wJ_X9_reads_190  Q  M7 x1)) ∧ ((¬ r8 = 0) → (w_X9_readsTie  M7  (fun r11 M10 => R160 M10 r11)))))))))
def wL_X9_reads_160  (Q : Int32 → Mem → Prop)  : Nat → Mem → Int32 → Prop
  | 0 => fun _ _ => False
  | n + 1 => fun M x1 => wB_X9_reads_160  Q  (wL_X9_reads_160  Q  n) M x1
theorem wL_X9_reads_160_s  {Q : Int32 → Mem → Prop}  {n : Nat} {M : Mem} {x1 : Int32} (h : wL_X9_reads_160  Q  (n + 1) M x1) : wB_X9_reads_160  Q  (wL_X9_reads_160  Q  n) M x1 := h
def wB_X9_reads_122  (Q : Int32 → Mem → Prop)  (R122 : Mem → Int32 → Prop) (M : Mem) (x1 : Int32) : Prop :=
  ((x1 = 0) → (∃ n2 : Nat, wL_X9_reads_160  Q  n2 M x1)) ∧ ((¬ x1 = 0) → ((((M 85 7) ≤ (M 85 12)) → (∃ n4 : Nat, wL_X9_reads_160  Q  n4 M x1)) ∧ ((¬ (M 85 7) ≤ (M 85 12)) → (∀ v5 : Int32, v5 = (M 85 12) → (vp_in v5 120 ∧ (w_X9_kindOfLetter  M (M 91 (Int32.toNatClampNeg v5)) (fun r8 M7 => ((r8 ≤ 0) → (∃ n10 : Nat, wL_X9_reads_160  Q  n10 M7 x1)) ∧ ((¬ r8 ≤ 0) → (w_X9_readsPerson  M7  (fun r12 M11 => R122 M11 r12))))))))))
def wL_X9_reads_122  (Q : Int32 → Mem → Prop)  : Nat → Mem → Int32 → Prop
  | 0 => fun _ _ => False
  | n + 1 => fun M x1 => wB_X9_reads_122  Q  (wL_X9_reads_122  Q  n) M x1
theorem wL_X9_reads_122_s  {Q : Int32 → Mem → Prop}  {n : Nat} {M : Mem} {x1 : Int32} (h : wL_X9_reads_122  Q  (n + 1) M x1) : wB_X9_reads_122  Q  (wL_X9_reads_122  Q  n) M x1 := h
def wJ_X9_reads_86  (Q : Int32 → Mem → Prop)  (M : Mem) (x1 : Int32) : Prop :=
  ((x1 = 0) → (∃ n2 : Nat, wL_X9_reads_122  Q  n2 M x1)) ∧ ((¬ x1 = 0) → ((((M 85 12) = (M 85 7)) → (w_X9_refuse  M 1 (fun r5 M4 => vz r5 ∧ Q r5 M4))) ∧ ((¬ (M 85 12) = (M 85 7)) → (∀ v6 : Int32, v6 = (M 85 12) → (vp_in v6 120 ∧ (w_X9_kindOfLetter  M (M 91 (Int32.toNatClampNeg v6)) (fun r9 M8 => ((¬ r9 = 0) → (∃ n11 : Nat, wL_X9_reads_122  Q  n11 M8 x1)) ∧ ((r9 = 0) → (w_X9_refuse  M8 1 (fun r13 M12 => vz r13 ∧ Q r13 M12))))))))))
def wB_X9_reads_65  (Q : Int32 → Mem → Prop)  (R65 : Mem → Int32 → Prop) (M : Mem) (x1 : Int32) : Prop :=
  ((x1 = 0) → (wJ_X9_reads_86  Q  M x1)) ∧ ((¬ x1 = 0) → (w_X9_isLetter  M 100 (fun r3 M2 => ((r3 = 0) → (wJ_X9_reads_86  Q  M2 x1)) ∧ ((¬ r3 = 0) → (w_X9_readsDoor  M2  (fun r6 M5 => R65 M5 r6))))))
def wL_X9_reads_65  (Q : Int32 → Mem → Prop)  : Nat → Mem → Int32 → Prop
  | 0 => fun _ _ => False
  | n + 1 => fun M x1 => wB_X9_reads_65  Q  (wL_X9_reads_65  Q  n) M x1
theorem wL_X9_reads_65_s  {Q : Int32 → Mem → Prop}  {n : Nat} {M : Mem} {x1 : Int32} (h : wL_X9_reads_65  Q  (n + 1) M x1) : wB_X9_reads_65  Q  (wL_X9_reads_65  Q  n) M x1 := h
def wB_X9_reads_2  (Q : Int32 → Mem → Prop)  (R2 : Mem → Int32 → Prop) (M : Mem) (x1 : Int32) : Prop :=
  ((126 ≤ x1) → (∀ M2 : Mem, M2 = ms M 85 12 0 → (w_X9_readsLaw  M2  (fun r4 M3 => ((r4 = 0) → (∃ n6 : Nat, wL_X9_reads_65  Q  n6 M3 r4)) ∧ ((¬ r4 = 0) → (w_X9_isLetter  M3 100 (fun r8 M7 => ((¬ r8 = 0) → (∃ n10 : Nat, wL_X9_reads_65  Q  n10 M7 r4)) ∧ ((r8 = 0) → (w_X9_refuse  M7 1 (fun r12 M11 => vz r12 ∧ Q r12 M11)))))))))) ∧ ((¬ 126 ≤ x1) → (((90 ≤ x1) → (vp_in (3402 + x1) 3528 ∧ (∀ M15 : Mem, M15 = ms M 86 (Int32.toNatClampNeg (3402 + x1)) (-1000000) → (∀ v16 : Int32, v16 = x1 + 1 → (R2 M15 v16))))) ∧ ((¬ 90 ≤ x1) → (vp_in (3402 + x1) 3528 ∧ (∀ M18 : Mem, M18 = ms M 86 (Int32.toNatClampNeg (3402 + x1)) 0 → (∀ v19 : Int32, v19 = x1 + 1 → (R2 M18 v19)))))))
def wL_X9_reads_2  (Q : Int32 → Mem → Prop)  : Nat → Mem → Int32 → Prop
  | 0 => fun _ _ => False
  | n + 1 => fun M x1 => wB_X9_reads_2  Q  (wL_X9_reads_2  Q  n) M x1
theorem wL_X9_reads_2_s  {Q : Int32 → Mem → Prop}  {n : Nat} {M : Mem} {x1 : Int32} (h : wL_X9_reads_2  Q  (n + 1) M x1) : wB_X9_reads_2  Q  (wL_X9_reads_2  Q  n) M x1 := h
def w_X9_reads  (M : Mem)  (Q : Int32 → Mem → Prop) : Prop :=
  ∃ n1 : Nat, wL_X9_reads_2  Q  n1 M 0
abbrev rm_X9_reads : Room := { frames := 15, cells := 0, slots := 0, locals := 300 }
set_option maxHeartbeats 4000000 in
set_option maxRecDepth 100000 in
theorem c_X9_reads (X : Cx)  (M : Mem)  (Q : Int32 → Mem → Prop) (h : w_X9_reads  M  Q) : Ct yX9_reads cX9_reads 2 (some .boolean) rm_X9_reads X M [.ref (ad X 85)] (Qi X Q) := by
  refine ct_of (own := RX9) (lv := [(0, .ref (ad X 85))]) rfl (by decide) (Nat.le_of_ble_eq_true rfl) rfl ?_
  intro K C
  have hJ190 : ∀  (M : Mem) (x1 : Int32), wJ_X9_reads_190  Q  M x1 → WX K X 2 (Qi X Q) M 190 [(0, .ref (ad X 85)), (1, .int x1)] [] := by
    intro  M x1 h
    unfold wJ_X9_reads_190 at h
    refine r_iload_n (pc := 190) C 1 dX9_reads_190 rfl ?_
    refine r_if_eq (pc := 191) (tgt := 217) C dX9_reads_191 (by decide) (fun c1 => ?_) (fun c1 => ?_)
    · have h := h.1 c1
      refine r_iconst (pc := 217) (v := 0) C dX9_reads_217 (by decide) ?_
      exact r_zret (pc := 218) C dX9_reads_218 (Or.inl rfl) h
    · have h := h.2 c1
      refine r_aload_n (pc := 194) C 0 dX9_reads_194 rfl ?_
      refine r_get (pc := 195) (k := 85) (j := 12) (Cn := RX9) (T := TX9) (N := 21) C (by decide) (ce85 _) rfl iaX9 (by decide) aw324 rfl rfl dX9_reads_195 ?_
      refine r_aload_n (pc := 198) C 0 dX9_reads_198 rfl ?_
      refine r_get (pc := 199) (k := 85) (j := 7) (Cn := RX9) (T := TX9) (N := 21) C (by decide) (ce85 _) rfl iaX9 (by decide) aw222 rfl rfl dX9_reads_199 ?_
      refine r_icmp_eq (pc := 202) (tgt := 213) C dX9_reads_202 (by decide) (fun c2 => ?_) (fun c2 => ?_)
      · have h := h.1 c2
        refine r_iconst (pc := 213) (v := 1) C dX9_reads_213 (by decide) ?_
        refine r_goto (pc := 214) (tgt := 218) C dX9_reads_214 (by decide) ?_
        exact r_zret (pc := 218) C dX9_reads_218 (Or.inr rfl) h
      · have h := h.2 c2
        refine r_aload_n (pc := 205) C 0 dX9_reads_205 rfl ?_
        refine r_iconst (pc := 206) (v := 1) C dX9_reads_206 (by decide) ?_
        have hM := c_X9_refuse X  M 1 _ h
        refine q_s0 (s1 := List.reverse [.int 1] ++ .ref (ad X 85) :: []) rfl ?_
        refine r_callVi (pc := 207) (k := 85) (As := [.int 1]) (st := []) C 1 (by decide) (ce85 _) rfl aw345 aw346 hM aw344 aw347 aw5 yd_X9_refuse ⟨rfl, rfl⟩ ⟨Nat.le_of_ble_eq_true rfl, Nat.le_of_ble_eq_true rfl⟩ rfl (Nat.le_of_ble_eq_true rfl) dX9_reads_207 (fun r4 M3 h => ?_)
        refine r_if_eq (pc := 210) (tgt := 217) C dX9_reads_210 (by decide) (fun c5 => ?_) (fun c5 => ?_)
        · have h := h.1 c5
          refine r_iconst (pc := 217) (v := 0) C dX9_reads_217 (by decide) ?_
          exact r_zret (pc := 218) C dX9_reads_218 (Or.inl rfl) h
        · have h := h.2 c5
          refine r_iconst (pc := 213) (v := 1) C dX9_reads_213 (by decide) ?_
          refine r_goto (pc := 214) (tgt := 218) C dX9_reads_214 (by decide) ?_
          exact r_zret (pc := 218) C dX9_reads_218 (Or.inr rfl) h
  have hL160 : ∀  (n : Nat) (M : Mem) (x1 : Int32), wL_X9_reads_160  Q  n M x1 → WX K X 2 (Qi X Q) M 160 [(0, .ref (ad X 85)), (1, .int x1)] [] := by
    intro  n
    induction n with
    | zero => intro M x1 h; exact absurd h id
    | succ n ih =>
      intro M x1 h
      replace h := wL_X9_reads_160_s h
      unfold wB_X9_reads_160 at h
      refine r_iload_n (pc := 160) C 1 dX9_reads_160 rfl ?_
      refine r_if_eq (pc := 161) (tgt := 190) C dX9_reads_161 (by decide) (fun c1 => ?_) (fun c1 => ?_)
      · have h := h.1 c1
        refine r_sub (lv2 := [(0, .ref (ad X 85)), (1, .int x1)]) [0, 1] rfl ?_
        exact hJ190  _ _ h
      · have h := h.2 c1
        refine r_aload_n (pc := 164) C 0 dX9_reads_164 rfl ?_
        refine r_bipush (pc := 165) (v := 105) C dX9_reads_165 (by decide) ?_
        have hM := c_X9_isLetter X  M 105 _ h
        refine q_s0 (s1 := List.reverse [.int 105] ++ .ref (ad X 85) :: []) rfl ?_
        refine r_callVi (pc := 167) (k := 85) (As := [.int 105]) (st := []) C 1 (by decide) (ce85 _) rfl aw341 aw342 hM aw340 aw343 aw5 yd_X9_isLetter ⟨rfl, rfl⟩ ⟨Nat.le_of_ble_eq_true rfl, Nat.le_of_ble_eq_true rfl⟩ rfl (Nat.le_of_ble_eq_true rfl) dX9_reads_167 (fun r3 M2 h => ?_)
        refine r_if_ne (pc := 170) (tgt := 182) C dX9_reads_170 (by decide) (fun c4 => ?_) (fun c4 => ?_)
        · have h := h.1 c4
          refine r_aload_n (pc := 182) C 0 dX9_reads_182 rfl ?_
          have hM := c_X9_readsTie X  M2  _ h
          refine q_s0 (s1 := List.reverse [] ++ .ref (ad X 85) :: []) rfl ?_
          refine r_callVi (pc := 183) (k := 85) (As := []) (st := []) C 0 (by decide) (ce85 _) rfl aw370 aw371 hM aw369 aw372 aw5 yd_X9_readsTie ⟨rfl, rfl⟩ ⟨Nat.le_of_ble_eq_true rfl, Nat.le_of_ble_eq_true rfl⟩ rfl (Nat.le_of_ble_eq_true rfl) dX9_reads_183 (fun r6 M5 h => ?_)
          refine r_istore_n (pc := 186) (lv2 := [(1, .int r6), (0, .ref (ad X 85))]) C dX9_reads_186 (by decide) rfl ?_
          refine r_goto (pc := 187) (tgt := 160) C dX9_reads_187 (by decide) ?_
          refine r_sub (lv2 := [(0, .ref (ad X 85)), (1, .int r6)]) [1, 0] rfl ?_
          exact ih _ _ h
        · have h := h.2 c4
          refine r_aload_n (pc := 173) C 0 dX9_reads_173 rfl ?_
          refine r_bipush (pc := 174) (v := 117) C dX9_reads_174 (by decide) ?_
          have hM := c_X9_isLetter X  M2 117 _ h
          refine q_s0 (s1 := List.reverse [.int 117] ++ .ref (ad X 85) :: []) rfl ?_
          refine r_callVi (pc := 176) (k := 85) (As := [.int 117]) (st := []) C 1 (by decide) (ce85 _) rfl aw341 aw342 hM aw340 aw343 aw5 yd_X9_isLetter ⟨rfl, rfl⟩ ⟨Nat.le_of_ble_eq_true rfl, Nat.le_of_ble_eq_true rfl⟩ rfl (Nat.le_of_ble_eq_true rfl) dX9_reads_176 (fun r8 M7 h => ?_)
          refine r_if_eq (pc := 179) (tgt := 190) C dX9_reads_179 (by decide) (fun c9 => ?_) (fun c9 => ?_)
          · have h := h.1 c9
            refine r_sub (lv2 := [(0, .ref (ad X 85)), (1, .int x1)]) [0, 1] rfl ?_
            exact hJ190  _ _ h
          · have h := h.2 c9
            refine r_aload_n (pc := 182) C 0 dX9_reads_182 rfl ?_
            have hM := c_X9_readsTie X  M7  _ h
            refine q_s0 (s1 := List.reverse [] ++ .ref (ad X 85) :: []) rfl ?_
            refine r_callVi (pc := 183) (k := 85) (As := []) (st := []) C 0 (by decide) (ce85 _) rfl aw370 aw371 hM aw369 aw372 aw5 yd_X9_readsTie ⟨rfl, rfl⟩ ⟨Nat.le_of_ble_eq_true rfl, Nat.le_of_ble_eq_true rfl⟩ rfl (Nat.le_of_ble_eq_true rfl) dX9_reads_183 (fun r11 M10 h => ?_)
            refine r_istore_n (pc := 186) (lv2 := [(1, .int r11), (0, .ref (ad X 85))]) C dX9_reads_186 (by decide) rfl ?_
            refine r_goto (pc := 187) (tgt := 160) C dX9_reads_187 (by decide) ?_
            refine r_sub (lv2 := [(0, .ref (ad X 85)), (1, .int r11)]) [1, 0] rfl ?_
            exact ih _ _ h
  have hL122 : ∀  (n : Nat) (M : Mem) (x1 : Int32), wL_X9_reads_122  Q  n M x1 → WX K X 2 (Qi X Q) M 122 [(0, .ref (ad X 85)), (1, .int x1)] [] := by
    intro  n
    induction n with
    | zero => intro M x1 h; exact absurd h id
    | succ n ih =>
      intro M x1 h
      replace h := wL_X9_reads_122_s h
      unfold wB_X9_reads_122 at h
      refine r_iload_n (pc := 122) C 1 dX9_reads_122 rfl ?_
      refine r_if_eq (pc := 123) (tgt := 160) C dX9_reads_123 (by decide) (fun c1 => ?_) (fun c1 => ?_)
      · have h := h.1 c1
        obtain ⟨n2, h⟩ := h
        refine r_sub (lv2 := [(0, .ref (ad X 85)), (1, .int x1)]) [0, 1] rfl ?_
        exact hL160  _ _ _ h
      · have h := h.2 c1
        refine r_aload_n (pc := 126) C 0 dX9_reads_126 rfl ?_
        refine r_get (pc := 127) (k := 85) (j := 12) (Cn := RX9) (T := TX9) (N := 21) C (by decide) (ce85 _) rfl iaX9 (by decide) aw324 rfl rfl dX9_reads_127 ?_
        refine r_aload_n (pc := 130) C 0 dX9_reads_130 rfl ?_
        refine r_get (pc := 131) (k := 85) (j := 7) (Cn := RX9) (T := TX9) (N := 21) C (by decide) (ce85 _) rfl iaX9 (by decide) aw222 rfl rfl dX9_reads_131 ?_
        refine r_icmp_ge (pc := 134) (tgt := 160) C dX9_reads_134 (by decide) (fun c3 => ?_) (fun c3 => ?_)
        · have h := h.1 c3
          obtain ⟨n4, h⟩ := h
          refine r_sub (lv2 := [(0, .ref (ad X 85)), (1, .int x1)]) [0, 1] rfl ?_
          exact hL160  _ _ _ h
        · have h := h.2 c3
          refine r_aload_n (pc := 137) C 0 dX9_reads_137 rfl ?_
          refine r_get (pc := 138) (k := 85) (j := 6) (Cn := RX9) (T := TX9) (N := 21) C (by decide) (ce85 _) rfl iaX9 (by decide) aw109 rfl rfl dX9_reads_138 ?_
          refine r_aload_n (pc := 141) C 0 dX9_reads_141 rfl ?_
          refine r_get (pc := 142) (k := 85) (j := 12) (Cn := RX9) (T := TX9) (N := 21) C (by decide) (ce85 _) rfl iaX9 (by decide) aw324 rfl rfl dX9_reads_142 ?_
          refine r_topi (fun v5 ev5 => ?_)
          replace h := h v5 ev5
          obtain ⟨g6, h⟩ := h
          refine q_iald (pc := 145) (k := 91) (n := 120) (j := (Int32.toNatClampNeg v5)) C (by decide) (ce91 _) g6 rfl dX9_reads_145 ?_
          have hM := c_X9_kindOfLetter X  M (M 91 (Int32.toNatClampNeg v5)) _ h
          refine q_s0 (s1 := List.reverse [.int (M 91 (Int32.toNatClampNeg v5))] ++ []) rfl ?_
          refine r_callSi (pc := 146) (As := [.int (M 91 (Int32.toNatClampNeg v5))]) (st := []) C 1 hM aw362 aw363 aw364 aw5 yd_X9_kindOfLetter ⟨rfl, rfl⟩ ⟨Nat.le_of_ble_eq_true rfl, Nat.le_of_ble_eq_true rfl⟩ rfl (Nat.le_of_ble_eq_true rfl) dX9_reads_146 (fun r8 M7 h => ?_)
          refine r_if_le (pc := 149) (tgt := 160) C dX9_reads_149 (by decide) (fun c9 => ?_) (fun c9 => ?_)
          · have h := h.1 c9
            obtain ⟨n10, h⟩ := h
            refine r_sub (lv2 := [(0, .ref (ad X 85)), (1, .int x1)]) [0, 1] rfl ?_
            exact hL160  _ _ _ h
          · have h := h.2 c9
            refine r_aload_n (pc := 152) C 0 dX9_reads_152 rfl ?_
            have hM := c_X9_readsPerson X  M7  _ h
            refine q_s0 (s1 := List.reverse [] ++ .ref (ad X 85) :: []) rfl ?_
            refine r_callVi (pc := 153) (k := 85) (As := []) (st := []) C 0 (by decide) (ce85 _) rfl aw366 aw367 hM aw365 aw368 aw5 yd_X9_readsPerson ⟨rfl, rfl⟩ ⟨Nat.le_of_ble_eq_true rfl, Nat.le_of_ble_eq_true rfl⟩ rfl (Nat.le_of_ble_eq_true rfl) dX9_reads_153 (fun r12 M11 h => ?_)
            refine r_istore_n (pc := 156) (lv2 := [(1, .int r12), (0, .ref (ad X 85))]) C dX9_reads_156 (by decide) rfl ?_
            refine r_goto (pc := 157) (tgt := 122) C dX9_reads_157 (by decide) ?_
            refine r_sub (lv2 := [(0, .ref (ad X 85)), (1, .int r12)]) [1, 0] rfl ?_
            exact ih _ _ h
  have hJ86 : ∀  (M : Mem) (x1 : Int32), wJ_X9_reads_86  Q  M x1 → WX K X 2 (Qi X Q) M 86 [(0, .ref (ad X 85)), (1, .int x1)] [] := by
    intro  M x1 h
    unfold wJ_X9_reads_86 at h
    refine r_iload_n (pc := 86) C 1 dX9_reads_86 rfl ?_
    refine r_if_eq (pc := 87) (tgt := 122) C dX9_reads_87 (by decide) (fun c1 => ?_) (fun c1 => ?_)
    · have h := h.1 c1
      obtain ⟨n2, h⟩ := h
      refine r_sub (lv2 := [(0, .ref (ad X 85)), (1, .int x1)]) [0, 1] rfl ?_
      exact hL122  _ _ _ h
    · have h := h.2 c1
      refine r_aload_n (pc := 90) C 0 dX9_reads_90 rfl ?_
      refine r_get (pc := 91) (k := 85) (j := 12) (Cn := RX9) (T := TX9) (N := 21) C (by decide) (ce85 _) rfl iaX9 (by decide) aw324 rfl rfl dX9_reads_91 ?_
      refine r_aload_n (pc := 94) C 0 dX9_reads_94 rfl ?_
      refine r_get (pc := 95) (k := 85) (j := 7) (Cn := RX9) (T := TX9) (N := 21) C (by decide) (ce85 _) rfl iaX9 (by decide) aw222 rfl rfl dX9_reads_95 ?_
      refine r_icmp_eq (pc := 98) (tgt := 116) C dX9_reads_98 (by decide) (fun c3 => ?_) (fun c3 => ?_)
      · have h := h.1 c3
        refine r_aload_n (pc := 116) C 0 dX9_reads_116 rfl ?_
        refine r_iconst (pc := 117) (v := 1) C dX9_reads_117 (by decide) ?_
        have hM := c_X9_refuse X  M 1 _ h
        refine q_s0 (s1 := List.reverse [.int 1] ++ .ref (ad X 85) :: []) rfl ?_
        refine r_callVi (pc := 118) (k := 85) (As := [.int 1]) (st := []) C 1 (by decide) (ce85 _) rfl aw345 aw346 hM aw344 aw347 aw5 yd_X9_refuse ⟨rfl, rfl⟩ ⟨Nat.le_of_ble_eq_true rfl, Nat.le_of_ble_eq_true rfl⟩ rfl (Nat.le_of_ble_eq_true rfl) dX9_reads_118 (fun r5 M4 h => ?_)
        exact r_zret (pc := 121) C dX9_reads_121 h.1 h.2
      · have h := h.2 c3
        refine r_aload_n (pc := 101) C 0 dX9_reads_101 rfl ?_
        refine r_get (pc := 102) (k := 85) (j := 6) (Cn := RX9) (T := TX9) (N := 21) C (by decide) (ce85 _) rfl iaX9 (by decide) aw109 rfl rfl dX9_reads_102 ?_
        refine r_aload_n (pc := 105) C 0 dX9_reads_105 rfl ?_
        refine r_get (pc := 106) (k := 85) (j := 12) (Cn := RX9) (T := TX9) (N := 21) C (by decide) (ce85 _) rfl iaX9 (by decide) aw324 rfl rfl dX9_reads_106 ?_
        refine r_topi (fun v6 ev6 => ?_)
        replace h := h v6 ev6
        obtain ⟨g7, h⟩ := h
        refine q_iald (pc := 109) (k := 91) (n := 120) (j := (Int32.toNatClampNeg v6)) C (by decide) (ce91 _) g7 rfl dX9_reads_109 ?_
        have hM := c_X9_kindOfLetter X  M (M 91 (Int32.toNatClampNeg v6)) _ h
        refine q_s0 (s1 := List.reverse [.int (M 91 (Int32.toNatClampNeg v6))] ++ []) rfl ?_
        refine r_callSi (pc := 110) (As := [.int (M 91 (Int32.toNatClampNeg v6))]) (st := []) C 1 hM aw362 aw363 aw364 aw5 yd_X9_kindOfLetter ⟨rfl, rfl⟩ ⟨Nat.le_of_ble_eq_true rfl, Nat.le_of_ble_eq_true rfl⟩ rfl (Nat.le_of_ble_eq_true rfl) dX9_reads_110 (fun r9 M8 h => ?_)
        refine r_if_ne (pc := 113) (tgt := 122) C dX9_reads_113 (by decide) (fun c10 => ?_) (fun c10 => ?_)
        · have h := h.1 c10
          obtain ⟨n11, h⟩ := h
          refine r_sub (lv2 := [(0, .ref (ad X 85)), (1, .int x1)]) [0, 1] rfl ?_
          exact hL122  _ _ _ h
        · have h := h.2 c10
          refine r_aload_n (pc := 116) C 0 dX9_reads_116 rfl ?_
          refine r_iconst (pc := 117) (v := 1) C dX9_reads_117 (by decide) ?_
          have hM := c_X9_refuse X  M8 1 _ h
          refine q_s0 (s1 := List.reverse [.int 1] ++ .ref (ad X 85) :: []) rfl ?_
          refine r_callVi (pc := 118) (k := 85) (As := [.int 1]) (st := []) C 1 (by decide) (ce85 _) rfl aw345 aw346 hM aw344 aw347 aw5 yd_X9_refuse ⟨rfl, rfl⟩ ⟨Nat.le_of_ble_eq_true rfl, Nat.le_of_ble_eq_true rfl⟩ rfl (Nat.le_of_ble_eq_true rfl) dX9_reads_118 (fun r13 M12 h => ?_)
          exact r_zret (pc := 121) C dX9_reads_121 h.1 h.2
  have hL65 : ∀  (n : Nat) (M : Mem) (x1 : Int32), wL_X9_reads_65  Q  n M x1 → WX K X 2 (Qi X Q) M 65 [(0, .ref (ad X 85)), (1, .int x1)] [] := by
    intro  n
    induction n with
    | zero => intro M x1 h; exact absurd h id
    | succ n ih =>
      intro M x1 h
      replace h := wL_X9_reads_65_s h
      unfold wB_X9_reads_65 at h
      refine r_iload_n (pc := 65) C 1 dX9_reads_65 rfl ?_
      refine r_if_eq (pc := 66) (tgt := 86) C dX9_reads_66 (by decide) (fun c1 => ?_) (fun c1 => ?_)
      · have h := h.1 c1
        refine r_sub (lv2 := [(0, .ref (ad X 85)), (1, .int x1)]) [0, 1] rfl ?_
        exact hJ86  _ _ h
      · have h := h.2 c1
        refine r_aload_n (pc := 69) C 0 dX9_reads_69 rfl ?_
        refine r_bipush (pc := 70) (v := 100) C dX9_reads_70 (by decide) ?_
        have hM := c_X9_isLetter X  M 100 _ h
        refine q_s0 (s1 := List.reverse [.int 100] ++ .ref (ad X 85) :: []) rfl ?_
        refine r_callVi (pc := 72) (k := 85) (As := [.int 100]) (st := []) C 1 (by decide) (ce85 _) rfl aw341 aw342 hM aw340 aw343 aw5 yd_X9_isLetter ⟨rfl, rfl⟩ ⟨Nat.le_of_ble_eq_true rfl, Nat.le_of_ble_eq_true rfl⟩ rfl (Nat.le_of_ble_eq_true rfl) dX9_reads_72 (fun r3 M2 h => ?_)
        refine r_if_eq (pc := 75) (tgt := 86) C dX9_reads_75 (by decide) (fun c4 => ?_) (fun c4 => ?_)
        · have h := h.1 c4
          refine r_sub (lv2 := [(0, .ref (ad X 85)), (1, .int x1)]) [0, 1] rfl ?_
          exact hJ86  _ _ h
        · have h := h.2 c4
          refine r_aload_n (pc := 78) C 0 dX9_reads_78 rfl ?_
          have hM := c_X9_readsDoor X  M2  _ h
          refine q_s0 (s1 := List.reverse [] ++ .ref (ad X 85) :: []) rfl ?_
          refine r_callVi (pc := 79) (k := 85) (As := []) (st := []) C 0 (by decide) (ce85 _) rfl aw359 aw360 hM aw358 aw361 aw5 yd_X9_readsDoor ⟨rfl, rfl⟩ ⟨Nat.le_of_ble_eq_true rfl, Nat.le_of_ble_eq_true rfl⟩ rfl (Nat.le_of_ble_eq_true rfl) dX9_reads_79 (fun r6 M5 h => ?_)
          refine r_istore_n (pc := 82) (lv2 := [(1, .int r6), (0, .ref (ad X 85))]) C dX9_reads_82 (by decide) rfl ?_
          refine r_goto (pc := 83) (tgt := 65) C dX9_reads_83 (by decide) ?_
          refine r_sub (lv2 := [(0, .ref (ad X 85)), (1, .int r6)]) [1, 0] rfl ?_
          exact ih _ _ h
  have hL2 : ∀  (n : Nat) (M : Mem) (x1 : Int32), wL_X9_reads_2  Q  n M x1 → WX K X 2 (Qi X Q) M 2 [(0, .ref (ad X 85)), (1, .int x1)] [] := by
    intro  n
    induction n with
    | zero => intro M x1 h; exact absurd h id
    | succ n ih =>
      intro M x1 h
      replace h := wL_X9_reads_2_s h
      unfold wB_X9_reads_2 at h
      refine r_iload_n (pc := 2) C 1 dX9_reads_2 rfl ?_
      refine r_bipush (pc := 3) (v := 126) C dX9_reads_3 (by decide) ?_
      refine r_icmp_ge (pc := 5) (tgt := 36) C dX9_reads_5 (by decide) (fun c1 => ?_) (fun c1 => ?_)
      · have h := h.1 c1
        refine r_aload_n (pc := 36) C 0 dX9_reads_36 rfl ?_
        refine r_iconst (pc := 37) (v := 0) C dX9_reads_37 (by decide) ?_
        refine r_put (pc := 38) (k := 85) (j := 12) (Cn := RX9) (T := TX9) (N := 21) (host := "") C (by decide) (ce85 _) rfl iaX9 (by decide) (ce85 _) tyX9_ok nmX9 aw324 rfl rfl (tyX9_ok 12 (by decide)) (Nat.le_of_ble_eq_true rfl) dX9_reads_38 ?_
        refine r_topM (fun M2 eM2 => ?_)
        replace h := h M2 eM2
        refine r_aload_n (pc := 41) C 0 dX9_reads_41 rfl ?_
        have hM := c_X9_readsLaw X  M2  _ h
        refine q_s0 (s1 := List.reverse [] ++ .ref (ad X 85) :: []) rfl ?_
        refine r_callVi (pc := 42) (k := 85) (As := []) (st := []) C 0 (by decide) (ce85 _) rfl aw332 aw333 hM aw331 aw334 aw5 yd_X9_readsLaw ⟨rfl, rfl⟩ ⟨Nat.le_of_ble_eq_true rfl, Nat.le_of_ble_eq_true rfl⟩ rfl (Nat.le_of_ble_eq_true rfl) dX9_reads_42 (fun r4 M3 h => ?_)
        refine r_istore_n (pc := 45) (lv2 := [(1, .int r4), (0, .ref (ad X 85))]) C dX9_reads_45 (by decide) rfl ?_
        refine r_iload_n (pc := 46) C 0 dX9_reads_46 rfl ?_
        refine r_if_eq (pc := 47) (tgt := 65) C dX9_reads_47 (by decide) (fun c5 => ?_) (fun c5 => ?_)
        · have h := h.1 c5
          obtain ⟨n6, h⟩ := h
          refine r_sub (lv2 := [(0, .ref (ad X 85)), (1, .int r4)]) [1, 0] rfl ?_
          exact hL65  _ _ _ h
        · have h := h.2 c5
          refine r_aload_n (pc := 50) C 1 dX9_reads_50 rfl ?_
          refine r_bipush (pc := 51) (v := 100) C dX9_reads_51 (by decide) ?_
          have hM := c_X9_isLetter X  M3 100 _ h
          refine q_s0 (s1 := List.reverse [.int 100] ++ .ref (ad X 85) :: []) rfl ?_
          refine r_callVi (pc := 53) (k := 85) (As := [.int 100]) (st := []) C 1 (by decide) (ce85 _) rfl aw341 aw342 hM aw340 aw343 aw5 yd_X9_isLetter ⟨rfl, rfl⟩ ⟨Nat.le_of_ble_eq_true rfl, Nat.le_of_ble_eq_true rfl⟩ rfl (Nat.le_of_ble_eq_true rfl) dX9_reads_53 (fun r8 M7 h => ?_)
          refine r_if_ne (pc := 56) (tgt := 65) C dX9_reads_56 (by decide) (fun c9 => ?_) (fun c9 => ?_)
          · have h := h.1 c9
            obtain ⟨n10, h⟩ := h
            refine r_sub (lv2 := [(0, .ref (ad X 85)), (1, .int r4)]) [1, 0] rfl ?_
            exact hL65  _ _ _ h
          · have h := h.2 c9
            refine r_aload_n (pc := 59) C 1 dX9_reads_59 rfl ?_
            refine r_iconst (pc := 60) (v := 1) C dX9_reads_60 (by decide) ?_
            have hM := c_X9_refuse X  M7 1 _ h
            refine q_s0 (s1 := List.reverse [.int 1] ++ .ref (ad X 85) :: []) rfl ?_
            refine r_callVi (pc := 61) (k := 85) (As := [.int 1]) (st := []) C 1 (by decide) (ce85 _) rfl aw345 aw346 hM aw344 aw347 aw5 yd_X9_refuse ⟨rfl, rfl⟩ ⟨Nat.le_of_ble_eq_true rfl, Nat.le_of_ble_eq_true rfl⟩ rfl (Nat.le_of_ble_eq_true rfl) dX9_reads_61 (fun r12 M11 h => ?_)
            exact r_zret (pc := 64) C dX9_reads_64 h.1 h.2
      · have h := h.2 c1
        refine r_aload_n (pc := 8) C 0 dX9_reads_8 rfl ?_
        refine r_get (pc := 9) (k := 85) (j := 0) (Cn := RX9) (T := TX9) (N := 21) C (by decide) (ce85 _) rfl iaX9 (by decide) aw103 rfl rfl dX9_reads_9 ?_
        refine r_sipush (pc := 12) (v := 3402) C dX9_reads_12 (by decide) ?_
        refine r_iload_n (pc := 15) C 1 dX9_reads_15 rfl ?_
        refine r_iadd (pc := 16) C dX9_reads_16 ?_
        refine r_iload_n (pc := 17) C 1 dX9_reads_17 rfl ?_
        refine r_bipush (pc := 18) (v := 90) C dX9_reads_18 (by decide) ?_
        refine r_icmp_ge (pc := 20) (tgt := 27) C dX9_reads_20 (by decide) (fun c13 => ?_) (fun c13 => ?_)
        · have h := h.1 c13
          refine r_ldc (pc := 27) C aw330 dX9_reads_27 ?_
          obtain ⟨g14, h⟩ := h
          refine q_iast (pc := 29) (k := 86) (n := 3528) (j := (Int32.toNatClampNeg (3402 + x1))) C (by decide) (ce86) g14 rfl dX9_reads_29 ?_
          refine r_topM (fun M15 eM15 => ?_)
          replace h := h M15 eM15
          obtain ⟨v16, ev16⟩ : ∃ z : Int32, z = x1 + 1 := ⟨_, rfl⟩
          replace h := h v16 ev16
          refine r_iinc (pc := 30) (v := v16) (lv2 := [(1, .int v16), (0, .ref (ad X 85))]) C 1 dX9_reads_30 rfl (by rw [ev16]; rfl) (by decide) rfl ?_
          refine r_goto (pc := 33) (tgt := 2) C dX9_reads_33 (by decide) ?_
          refine r_sub (lv2 := [(0, .ref (ad X 85)), (1, .int v16)]) [1, 0] rfl ?_
          exact ih _ _ h
        · have h := h.2 c13
          refine r_iconst (pc := 23) (v := 0) C dX9_reads_23 (by decide) ?_
          refine r_goto (pc := 24) (tgt := 29) C dX9_reads_24 (by decide) ?_
          obtain ⟨g17, h⟩ := h
          refine q_iast (pc := 29) (k := 86) (n := 3528) (j := (Int32.toNatClampNeg (3402 + x1))) C (by decide) (ce86) g17 rfl dX9_reads_29 ?_
          refine r_topM (fun M18 eM18 => ?_)
          replace h := h M18 eM18
          obtain ⟨v19, ev19⟩ : ∃ z : Int32, z = x1 + 1 := ⟨_, rfl⟩
          replace h := h v19 ev19
          refine r_iinc (pc := 30) (v := v19) (lv2 := [(1, .int v19), (0, .ref (ad X 85))]) C 1 dX9_reads_30 rfl (by rw [ev19]; rfl) (by decide) rfl ?_
          refine r_goto (pc := 33) (tgt := 2) C dX9_reads_33 (by decide) ?_
          refine r_sub (lv2 := [(0, .ref (ad X 85)), (1, .int v19)]) [1, 0] rfl ?_
          exact ih _ _ h
  unfold w_X9_reads at h
  refine r_iconst (pc := 0) (v := 0) C dX9_reads_0 (by decide) ?_
  refine r_istore_n (pc := 1) (lv2 := [(1, .int 0), (0, .ref (ad X 85))]) C dX9_reads_1 (by decide) rfl ?_
  obtain ⟨n1, h⟩ := h
  refine r_sub (lv2 := [(0, .ref (ad X 85)), (1, .int 0)]) [1, 0] rfl ?_
  exact hL2  _ _ _ h
theorem yd_X9_copyTown : yX9_copyTown.cls ≠ "java/lang/invoke/MethodHandle" ∧ yX9_copyTown.cls ≠ "java/lang/invoke/VarHandle" ∧ (parseMethodDescriptor yX9_copyTown.desc).map (fun d => d.parameters.length) = some 2 := by decide +kernel
def wB_X9_copyTown_2  (Q : Mem → Prop)  (R2 : Mem → Int32 → Int32 → Int32 → Prop) (M : Mem) (x1 : Int32) (x2 : Int32) (x3 : Int32) : Prop :=
  ((126 ≤ x3) → (Q M)) ∧ ((¬ 126 ≤ x3) → (∀ v2 : Int32, v2 = (x1 + x3) → (vp_in v2 3528 ∧ (∀ v4 : Int32, v4 = (M 86 (Int32.toNatClampNeg v2)) → (vp_in (x2 + x3) 3528 ∧ (∀ M6 : Mem, M6 = ms M 86 (Int32.toNatClampNeg (x2 + x3)) v4 → (∀ v7 : Int32, v7 = x3 + 1 → (R2 M6 x1 x2 v7))))))))
def wL_X9_copyTown_2  (Q : Mem → Prop)  : Nat → Mem → Int32 → Int32 → Int32 → Prop
  | 0 => fun _ _ _ _ => False
  | n + 1 => fun M x1 x2 x3 => wB_X9_copyTown_2  Q  (wL_X9_copyTown_2  Q  n) M x1 x2 x3
theorem wL_X9_copyTown_2_s  {Q : Mem → Prop}  {n : Nat} {M : Mem} {x1 : Int32} {x2 : Int32} {x3 : Int32} (h : wL_X9_copyTown_2  Q  (n + 1) M x1 x2 x3) : wB_X9_copyTown_2  Q  (wL_X9_copyTown_2  Q  n) M x1 x2 x3 := h
def w_X9_copyTown  (M : Mem) (x1 : Int32) (x2 : Int32) (Q : Mem → Prop) : Prop :=
  ∃ n1 : Nat, wL_X9_copyTown_2  Q  n1 M x1 x2 0
abbrev rm_X9_copyTown : Room := { frames := 3, cells := 0, slots := 0, locals := 60 }
set_option maxHeartbeats 4000000 in
set_option maxRecDepth 100000 in
theorem c_X9_copyTown (X : Cx)  (M : Mem) (x1 : Int32) (x2 : Int32) (Q : Mem → Prop) (h : w_X9_copyTown  M x1 x2 Q) : Ct yX9_copyTown cX9_copyTown 4 none rm_X9_copyTown X M [.ref (ad X 85), .int x1, .int x2] (Qv X Q) := by
  refine ct_of (own := RX9) (lv := [(0, .ref (ad X 85)), (1, .int x1), (2, .int x2)]) rfl (by decide) (Nat.le_of_ble_eq_true rfl) rfl ?_
  intro K C
  have hL2 : ∀  (n : Nat) (M : Mem) (x1 : Int32) (x2 : Int32) (x3 : Int32), wL_X9_copyTown_2  Q  n M x1 x2 x3 → WX K X 4 (Qv X Q) M 2 [(0, .ref (ad X 85)), (1, .int x1), (2, .int x2), (3, .int x3)] [] := by
    intro  n
    induction n with
    | zero => intro M x1 x2 x3 h; exact absurd h id
    | succ n ih =>
      intro M x1 x2 x3 h
      replace h := wL_X9_copyTown_2_s h
      unfold wB_X9_copyTown_2 at h
      refine r_iload_n (pc := 2) C 3 dX9_copyTown_2 rfl ?_
      refine r_bipush (pc := 3) (v := 126) C dX9_copyTown_3 (by decide) ?_
      refine r_icmp_ge (pc := 5) (tgt := 30) C dX9_copyTown_5 (by decide) (fun c1 => ?_) (fun c1 => ?_)
      · have h := h.1 c1
        exact r_vret (pc := 30) C dX9_copyTown_30 h
      · have h := h.2 c1
        refine r_aload_n (pc := 8) C 0 dX9_copyTown_8 rfl ?_
        refine r_get (pc := 9) (k := 85) (j := 0) (Cn := RX9) (T := TX9) (N := 21) C (by decide) (ce85 _) rfl iaX9 (by decide) aw103 rfl rfl dX9_copyTown_9 ?_
        refine r_iload_n (pc := 12) C 2 dX9_copyTown_12 rfl ?_
        refine r_iload_n (pc := 13) C 3 dX9_copyTown_13 rfl ?_
        refine r_iadd (pc := 14) C dX9_copyTown_14 ?_
        refine r_aload_n (pc := 15) C 0 dX9_copyTown_15 rfl ?_
        refine r_get (pc := 16) (k := 85) (j := 0) (Cn := RX9) (T := TX9) (N := 21) C (by decide) (ce85 _) rfl iaX9 (by decide) aw103 rfl rfl dX9_copyTown_16 ?_
        refine r_iload_n (pc := 19) C 1 dX9_copyTown_19 rfl ?_
        refine r_iload_n (pc := 20) C 3 dX9_copyTown_20 rfl ?_
        refine r_iadd (pc := 21) C dX9_copyTown_21 ?_
        refine r_topi (fun v2 ev2 => ?_)
        replace h := h v2 ev2
        obtain ⟨g3, h⟩ := h
        refine q_iald (pc := 22) (k := 86) (n := 3528) (j := (Int32.toNatClampNeg v2)) C (by decide) (ce86 _) g3 rfl dX9_copyTown_22 ?_
        refine r_topi (fun v4 ev4 => ?_)
        replace h := h v4 ev4
        obtain ⟨g5, h⟩ := h
        refine q_iast (pc := 23) (k := 86) (n := 3528) (j := (Int32.toNatClampNeg (x2 + x3))) C (by decide) (ce86) g5 rfl dX9_copyTown_23 ?_
        refine r_topM (fun M6 eM6 => ?_)
        replace h := h M6 eM6
        obtain ⟨v7, ev7⟩ : ∃ z : Int32, z = x3 + 1 := ⟨_, rfl⟩
        replace h := h v7 ev7
        refine r_iinc (pc := 24) (v := v7) (lv2 := [(3, .int v7), (0, .ref (ad X 85)), (1, .int x1), (2, .int x2)]) C 3 dX9_copyTown_24 rfl (by rw [ev7]; rfl) (by decide) rfl ?_
        refine r_goto (pc := 27) (tgt := 2) C dX9_copyTown_27 (by decide) ?_
        refine r_sub (lv2 := [(0, .ref (ad X 85)), (1, .int x1), (2, .int x2), (3, .int v7)]) [1, 2, 3, 0] rfl ?_
        exact ih _ _ _ _ h
  unfold w_X9_copyTown at h
  refine r_iconst (pc := 0) (v := 0) C dX9_copyTown_0 (by decide) ?_
  refine r_istore_n (pc := 1) (lv2 := [(3, .int 0), (0, .ref (ad X 85)), (1, .int x1), (2, .int x2)]) C dX9_copyTown_1 (by decide) rfl ?_
  obtain ⟨n1, h⟩ := h
  refine r_sub (lv2 := [(0, .ref (ad X 85)), (1, .int x1), (2, .int x2), (3, .int 0)]) [1, 2, 3, 0] rfl ?_
  exact hL2  _ _ _ _ _ h
theorem yd_X9_town : yX9_town.cls ≠ "java/lang/invoke/MethodHandle" ∧ yX9_town.cls ≠ "java/lang/invoke/VarHandle" ∧ (parseMethodDescriptor yX9_town.desc).map (fun d => d.parameters.length) = some 0 := by decide +kernel
def w_X9_town  (M : Mem)  (Q : Int32 → Mem → Prop) : Prop :=
  w_X9_reads  M  (fun r2 M1 => ∀ M3 : Mem, M3 = ms M1 85 7 0 → (((¬ r2 = 0) → (w_X9_copyTown  M3 3402 0 (fun M5 => ∀ M7 : Mem, M7 = ms M5 85 1 0 → (Q (M7 86 3) M7)))) ∧ ((r2 = 0) → (∀ v8 : Int32, v8 = (M3 85 13) → (∀ M9 : Mem, M9 = ms M3 85 8 v8 → (Q ((-1000100) - (M9 85 12)) M9))))))
abbrev rm_X9_town : Room := { frames := 18, cells := 0, slots := 0, locals := 360 }
set_option maxHeartbeats 4000000 in
set_option maxRecDepth 100000 in
theorem c_X9_town (X : Cx)  (M : Mem)  (Q : Int32 → Mem → Prop) (h : w_X9_town  M  Q) : Ct yX9_town cX9_town 2 (some .int) rm_X9_town X M [.ref (ad X 85)] (Qi X Q) := by
  refine ct_of (own := RX9) (lv := [(0, .ref (ad X 85))]) rfl (by decide) (Nat.le_of_ble_eq_true rfl) rfl ?_
  intro K C
  unfold w_X9_town at h
  refine r_aload_n (pc := 0) C 0 dX9_town_0 rfl ?_
  have hM := c_X9_reads X  M  _ h
  refine q_s0 (s1 := List.reverse [] ++ .ref (ad X 85) :: []) rfl ?_
  refine r_callVi (pc := 1) (k := 85) (As := []) (st := []) C 0 (by decide) (ce85 _) rfl aw327 aw328 hM aw326 aw329 aw5 yd_X9_reads ⟨rfl, rfl⟩ ⟨Nat.le_of_ble_eq_true rfl, Nat.le_of_ble_eq_true rfl⟩ rfl (Nat.le_of_ble_eq_true rfl) dX9_town_1 (fun r2 M1 h => ?_)
  refine r_istore_n (pc := 4) (lv2 := [(1, .int r2), (0, .ref (ad X 85))]) C dX9_town_4 (by decide) rfl ?_
  refine r_aload_n (pc := 5) C 1 dX9_town_5 rfl ?_
  refine r_iconst (pc := 6) (v := 0) C dX9_town_6 (by decide) ?_
  refine r_put (pc := 7) (k := 85) (j := 7) (Cn := RX9) (T := TX9) (N := 21) (host := "") C (by decide) (ce85 _) rfl iaX9 (by decide) (ce85 _) tyX9_ok nmX9 aw222 rfl rfl (tyX9_ok 7 (by decide)) (Nat.le_of_ble_eq_true rfl) dX9_town_7 ?_
  refine r_topM (fun M3 eM3 => ?_)
  replace h := h M3 eM3
  refine r_iload_n (pc := 10) C 0 dX9_town_10 rfl ?_
  refine r_if_ne (pc := 11) (tgt := 30) C dX9_town_11 (by decide) (fun c4 => ?_) (fun c4 => ?_)
  · have h := h.1 c4
    refine r_aload_n (pc := 30) C 1 dX9_town_30 rfl ?_
    refine r_sipush (pc := 31) (v := 3402) C dX9_town_31 (by decide) ?_
    refine r_iconst (pc := 34) (v := 0) C dX9_town_34 (by decide) ?_
    have hM := c_X9_copyTown X  M3 3402 0 _ h
    refine q_s0 (s1 := List.reverse [.int 3402, .int 0] ++ .ref (ad X 85) :: []) rfl ?_
    refine r_callVv (pc := 35) (k := 85) (As := [.int 3402, .int 0]) (st := []) C 2 (by decide) (ce85 _) rfl aw377 aw378 hM aw376 aw379 aw5 yd_X9_copyTown ⟨rfl, rfl⟩ ⟨Nat.le_of_ble_eq_true rfl, Nat.le_of_ble_eq_true rfl⟩ rfl (Nat.le_of_ble_eq_true rfl) dX9_town_35 (fun M5 h => ?_)
    refine r_aload_n (pc := 38) C 1 dX9_town_38 rfl ?_
    refine r_iconst (pc := 39) (v := 0) C dX9_town_39 (by decide) ?_
    refine r_put (pc := 40) (k := 85) (j := 1) (Cn := RX9) (T := TX9) (N := 21) (host := "") C (by decide) (ce85 _) rfl iaX9 (by decide) (ce85 _) tyX9_ok nmX9 aw325 rfl rfl (tyX9_ok 1 (by decide)) (Nat.le_of_ble_eq_true rfl) dX9_town_40 ?_
    refine r_topM (fun M7 eM7 => ?_)
    replace h := h M7 eM7
    refine r_aload_n (pc := 43) C 1 dX9_town_43 rfl ?_
    refine r_get (pc := 44) (k := 85) (j := 0) (Cn := RX9) (T := TX9) (N := 21) C (by decide) (ce85 _) rfl iaX9 (by decide) aw103 rfl rfl dX9_town_44 ?_
    refine r_iconst (pc := 47) (v := 3) C dX9_town_47 (by decide) ?_
    refine q_iald (pc := 48) (k := 86) (n := 3528) (j := 3) C (by decide) (ce86 _) (in_lit (by decide)) (by decide) dX9_town_48 ?_
    exact r_iret (pc := 49) C dX9_town_49 h
  · have h := h.2 c4
    refine r_aload_n (pc := 14) C 1 dX9_town_14 rfl ?_
    refine r_aload_n (pc := 15) C 1 dX9_town_15 rfl ?_
    refine r_get (pc := 16) (k := 85) (j := 13) (Cn := RX9) (T := TX9) (N := 21) C (by decide) (ce85 _) rfl iaX9 (by decide) aw321 rfl rfl dX9_town_16 ?_
    refine r_topi (fun v8 ev8 => ?_)
    replace h := h v8 ev8
    refine r_put (pc := 19) (k := 85) (j := 8) (Cn := RX9) (T := TX9) (N := 21) (host := "") C (by decide) (ce85 _) rfl iaX9 (by decide) (ce85 _) tyX9_ok nmX9 aw322 rfl rfl (tyX9_ok 8 (by decide)) (Nat.le_of_ble_eq_true rfl) dX9_town_19 ?_
    refine r_topM (fun M9 eM9 => ?_)
    replace h := h M9 eM9
    refine r_ldc (pc := 22) C aw323 dX9_town_22 ?_
    refine r_aload_n (pc := 24) C 1 dX9_town_24 rfl ?_
    refine r_get (pc := 25) (k := 85) (j := 12) (Cn := RX9) (T := TX9) (N := 21) C (by decide) (ce85 _) rfl iaX9 (by decide) aw324 rfl rfl dX9_town_25 ?_
    refine r_isub (pc := 28) C dX9_town_28 ?_
    exact r_iret (pc := 29) C dX9_town_29 h
theorem yd_X9_fault : yX9_fault.cls ≠ "java/lang/invoke/MethodHandle" ∧ yX9_fault.cls ≠ "java/lang/invoke/VarHandle" ∧ (parseMethodDescriptor yX9_fault.desc).map (fun d => d.parameters.length) = some 0 := by decide +kernel
def w_X9_fault  (M : Mem)  (Q : Int32 → Mem → Prop) : Prop :=
  Q (M 85 8) M
abbrev rm_X9_fault : Room := { frames := 3, cells := 0, slots := 0, locals := 60 }
set_option maxHeartbeats 4000000 in
set_option maxRecDepth 100000 in
theorem c_X9_fault (X : Cx)  (M : Mem)  (Q : Int32 → Mem → Prop) (h : w_X9_fault  M  Q) : Ct yX9_fault cX9_fault 1 (some .int) rm_X9_fault X M [.ref (ad X 85)] (Qi X Q) := by
  refine ct_of (own := RX9) (lv := [(0, .ref (ad X 85))]) rfl (by decide) (Nat.le_of_ble_eq_true rfl) rfl ?_
  intro K C
  unfold w_X9_fault at h
  refine r_aload_n (pc := 0) C 0 dX9_fault_0 rfl ?_
  refine r_get (pc := 1) (k := 85) (j := 8) (Cn := RX9) (T := TX9) (N := 21) C (by decide) (ce85 _) rfl iaX9 (by decide) aw322 rfl rfl dX9_fault_1 ?_
  exact r_iret (pc := 4) C dX9_fault_4 h
theorem yd_X9_keepPast : yX9_keepPast.cls ≠ "java/lang/invoke/MethodHandle" ∧ yX9_keepPast.cls ≠ "java/lang/invoke/VarHandle" ∧ (parseMethodDescriptor yX9_keepPast.desc).map (fun d => d.parameters.length) = some 0 := by decide +kernel
def wJ_X9_keepPast_62  (Q : Mem → Prop)  (M : Mem) (s1 : Int32) (s2 : Int32) : Prop :=
  ∀ v1 : Int32, v1 = (s1 - s2) → (∀ M2 : Mem, M2 = ms M 85 1 v1 → (w_X9_copyTown  M2 0 (126 + (126 * (M2 85 1))) (fun M3 => ∀ v5 : Int32, v5 = ((M3 85 1) + 1) → (∀ M6 : Mem, M6 = ms M3 85 1 v5 → (Q M6)))))
def wJ_X9_keepPast_43  (Q : Mem → Prop)  (M : Mem)  : Prop :=
  ((¬ (M 85 1) = 24) → (wJ_X9_keepPast_62  Q  M (M 85 1) 0)) ∧ (((M 85 1) = 24) → (wJ_X9_keepPast_62  Q  M (M 85 1) 1))
def wB_X9_keepPast_2  (Q : Mem → Prop)  (R2 : Mem → Int32 → Prop) (M : Mem) (x1 : Int32) : Prop :=
  ((2898 ≤ x1) → (wJ_X9_keepPast_43  Q  M )) ∧ ((¬ 2898 ≤ x1) → (((¬ (M 85 1) = 24) → (wJ_X9_keepPast_43  Q  M )) ∧ (((M 85 1) = 24) → (∀ v3 : Int32, v3 = (252 + x1) → (vp_in v3 3528 ∧ (∀ v5 : Int32, v5 = (M 86 (Int32.toNatClampNeg v3)) → (vp_in (126 + x1) 3528 ∧ (∀ M7 : Mem, M7 = ms M 86 (Int32.toNatClampNeg (126 + x1)) v5 → (∀ v8 : Int32, v8 = x1 + 1 → (R2 M7 v8))))))))))
def wL_X9_keepPast_2  (Q : Mem → Prop)  : Nat → Mem → Int32 → Prop
  | 0 => fun _ _ => False
  | n + 1 => fun M x1 => wB_X9_keepPast_2  Q  (wL_X9_keepPast_2  Q  n) M x1
theorem wL_X9_keepPast_2_s  {Q : Mem → Prop}  {n : Nat} {M : Mem} {x1 : Int32} (h : wL_X9_keepPast_2  Q  (n + 1) M x1) : wB_X9_keepPast_2  Q  (wL_X9_keepPast_2  Q  n) M x1 := h
def w_X9_keepPast  (M : Mem)  (Q : Mem → Prop) : Prop :=
  ∃ n1 : Nat, wL_X9_keepPast_2  Q  n1 M 0
abbrev rm_X9_keepPast : Room := { frames := 6, cells := 0, slots := 0, locals := 120 }
set_option maxHeartbeats 4000000 in
set_option maxRecDepth 100000 in
theorem c_X9_keepPast (X : Cx)  (M : Mem)  (Q : Mem → Prop) (h : w_X9_keepPast  M  Q) : Ct yX9_keepPast cX9_keepPast 2 none rm_X9_keepPast X M [.ref (ad X 85)] (Qv X Q) := by
  refine ct_of (own := RX9) (lv := [(0, .ref (ad X 85))]) rfl (by decide) (Nat.le_of_ble_eq_true rfl) rfl ?_
  intro K C
  have hJ62 : ∀  (M : Mem) (s1 : Int32) (s2 : Int32), wJ_X9_keepPast_62  Q  M s1 s2 → WX K X 2 (Qv X Q) M 62 [(0, .ref (ad X 85))] [.int s2, .int s1, .ref (ad X 85)] := by
    intro  M s1 s2 h
    unfold wJ_X9_keepPast_62 at h
    refine r_isub (pc := 62) C dX9_keepPast_62 ?_
    refine r_topi (fun v1 ev1 => ?_)
    replace h := h v1 ev1
    refine r_put (pc := 63) (k := 85) (j := 1) (Cn := RX9) (T := TX9) (N := 21) (host := "") C (by decide) (ce85 _) rfl iaX9 (by decide) (ce85 _) tyX9_ok nmX9 aw325 rfl rfl (tyX9_ok 1 (by decide)) (Nat.le_of_ble_eq_true rfl) dX9_keepPast_63 ?_
    refine r_topM (fun M2 eM2 => ?_)
    replace h := h M2 eM2
    refine r_aload_n (pc := 66) C 0 dX9_keepPast_66 rfl ?_
    refine r_iconst (pc := 67) (v := 0) C dX9_keepPast_67 (by decide) ?_
    refine r_bipush (pc := 68) (v := 126) C dX9_keepPast_68 (by decide) ?_
    refine r_bipush (pc := 70) (v := 126) C dX9_keepPast_70 (by decide) ?_
    refine r_aload_n (pc := 72) C 0 dX9_keepPast_72 rfl ?_
    refine r_get (pc := 73) (k := 85) (j := 1) (Cn := RX9) (T := TX9) (N := 21) C (by decide) (ce85 _) rfl iaX9 (by decide) aw325 rfl rfl dX9_keepPast_73 ?_
    refine r_imul (pc := 76) C dX9_keepPast_76 ?_
    refine r_iadd (pc := 77) C dX9_keepPast_77 ?_
    have hM := c_X9_copyTown X  M2 0 (126 + (126 * (M2 85 1))) _ h
    refine q_s0 (s1 := List.reverse [.int 0, .int (126 + (126 * (M2 85 1)))] ++ .ref (ad X 85) :: []) rfl ?_
    refine r_callVv (pc := 78) (k := 85) (As := [.int 0, .int (126 + (126 * (M2 85 1)))]) (st := []) C 2 (by decide) (ce85 _) rfl aw377 aw378 hM aw376 aw379 aw5 yd_X9_copyTown ⟨rfl, rfl⟩ ⟨Nat.le_of_ble_eq_true rfl, Nat.le_of_ble_eq_true rfl⟩ rfl (Nat.le_of_ble_eq_true rfl) dX9_keepPast_78 (fun M3 h => ?_)
    refine r_aload_n (pc := 81) C 0 dX9_keepPast_81 rfl ?_
    refine r_dup (pc := 82) C dX9_keepPast_82 rfl ?_
    refine r_get (pc := 83) (k := 85) (j := 1) (Cn := RX9) (T := TX9) (N := 21) C (by decide) (ce85 _) rfl iaX9 (by decide) aw325 rfl rfl dX9_keepPast_83 ?_
    refine r_iconst (pc := 86) (v := 1) C dX9_keepPast_86 (by decide) ?_
    refine r_iadd (pc := 87) C dX9_keepPast_87 ?_
    refine r_topi (fun v5 ev5 => ?_)
    replace h := h v5 ev5
    refine r_put (pc := 88) (k := 85) (j := 1) (Cn := RX9) (T := TX9) (N := 21) (host := "") C (by decide) (ce85 _) rfl iaX9 (by decide) (ce85 _) tyX9_ok nmX9 aw325 rfl rfl (tyX9_ok 1 (by decide)) (Nat.le_of_ble_eq_true rfl) dX9_keepPast_88 ?_
    refine r_topM (fun M6 eM6 => ?_)
    replace h := h M6 eM6
    exact r_vret (pc := 91) C dX9_keepPast_91 h
  have hJ43 : ∀  (M : Mem) , wJ_X9_keepPast_43  Q  M  → WX K X 2 (Qv X Q) M 43 [(0, .ref (ad X 85))] [] := by
    intro  M  h
    unfold wJ_X9_keepPast_43 at h
    refine r_aload_n (pc := 43) C 0 dX9_keepPast_43 rfl ?_
    refine r_dup (pc := 44) C dX9_keepPast_44 rfl ?_
    refine r_get (pc := 45) (k := 85) (j := 1) (Cn := RX9) (T := TX9) (N := 21) C (by decide) (ce85 _) rfl iaX9 (by decide) aw325 rfl rfl dX9_keepPast_45 ?_
    refine r_aload_n (pc := 48) C 0 dX9_keepPast_48 rfl ?_
    refine r_get (pc := 49) (k := 85) (j := 1) (Cn := RX9) (T := TX9) (N := 21) C (by decide) (ce85 _) rfl iaX9 (by decide) aw325 rfl rfl dX9_keepPast_49 ?_
    refine r_bipush (pc := 52) (v := 24) C dX9_keepPast_52 (by decide) ?_
    refine r_icmp_ne (pc := 54) (tgt := 61) C dX9_keepPast_54 (by decide) (fun c1 => ?_) (fun c1 => ?_)
    · have h := h.1 c1
      refine r_iconst (pc := 61) (v := 0) C dX9_keepPast_61 (by decide) ?_
      refine r_sub (lv2 := [(0, .ref (ad X 85))]) [0] rfl ?_
      exact hJ62  _ _ _ h
    · have h := h.2 c1
      refine r_iconst (pc := 57) (v := 1) C dX9_keepPast_57 (by decide) ?_
      refine r_goto (pc := 58) (tgt := 62) C dX9_keepPast_58 (by decide) ?_
      refine r_sub (lv2 := [(0, .ref (ad X 85))]) [0] rfl ?_
      exact hJ62  _ _ _ h
  have hL2 : ∀  (n : Nat) (M : Mem) (x1 : Int32), wL_X9_keepPast_2  Q  n M x1 → WX K X 2 (Qv X Q) M 2 [(0, .ref (ad X 85)), (1, .int x1)] [] := by
    intro  n
    induction n with
    | zero => intro M x1 h; exact absurd h id
    | succ n ih =>
      intro M x1 h
      replace h := wL_X9_keepPast_2_s h
      unfold wB_X9_keepPast_2 at h
      refine r_iload_n (pc := 2) C 1 dX9_keepPast_2 rfl ?_
      refine r_sipush (pc := 3) (v := 2898) C dX9_keepPast_3 (by decide) ?_
      refine r_icmp_ge (pc := 6) (tgt := 43) C dX9_keepPast_6 (by decide) (fun c1 => ?_) (fun c1 => ?_)
      · have h := h.1 c1
        refine r_sub (lv2 := [(0, .ref (ad X 85))]) [0] rfl ?_
        exact hJ43  _  h
      · have h := h.2 c1
        refine r_aload_n (pc := 9) C 0 dX9_keepPast_9 rfl ?_
        refine r_get (pc := 10) (k := 85) (j := 1) (Cn := RX9) (T := TX9) (N := 21) C (by decide) (ce85 _) rfl iaX9 (by decide) aw325 rfl rfl dX9_keepPast_10 ?_
        refine r_bipush (pc := 13) (v := 24) C dX9_keepPast_13 (by decide) ?_
        refine r_icmp_ne (pc := 15) (tgt := 43) C dX9_keepPast_15 (by decide) (fun c2 => ?_) (fun c2 => ?_)
        · have h := h.1 c2
          refine r_sub (lv2 := [(0, .ref (ad X 85))]) [0] rfl ?_
          exact hJ43  _  h
        · have h := h.2 c2
          refine r_aload_n (pc := 18) C 0 dX9_keepPast_18 rfl ?_
          refine r_get (pc := 19) (k := 85) (j := 0) (Cn := RX9) (T := TX9) (N := 21) C (by decide) (ce85 _) rfl iaX9 (by decide) aw103 rfl rfl dX9_keepPast_19 ?_
          refine r_bipush (pc := 22) (v := 126) C dX9_keepPast_22 (by decide) ?_
          refine r_iload_n (pc := 24) C 1 dX9_keepPast_24 rfl ?_
          refine r_iadd (pc := 25) C dX9_keepPast_25 ?_
          refine r_aload_n (pc := 26) C 0 dX9_keepPast_26 rfl ?_
          refine r_get (pc := 27) (k := 85) (j := 0) (Cn := RX9) (T := TX9) (N := 21) C (by decide) (ce85 _) rfl iaX9 (by decide) aw103 rfl rfl dX9_keepPast_27 ?_
          refine r_sipush (pc := 30) (v := 252) C dX9_keepPast_30 (by decide) ?_
          refine r_iload_n (pc := 33) C 1 dX9_keepPast_33 rfl ?_
          refine r_iadd (pc := 34) C dX9_keepPast_34 ?_
          refine r_topi (fun v3 ev3 => ?_)
          replace h := h v3 ev3
          obtain ⟨g4, h⟩ := h
          refine q_iald (pc := 35) (k := 86) (n := 3528) (j := (Int32.toNatClampNeg v3)) C (by decide) (ce86 _) g4 rfl dX9_keepPast_35 ?_
          refine r_topi (fun v5 ev5 => ?_)
          replace h := h v5 ev5
          obtain ⟨g6, h⟩ := h
          refine q_iast (pc := 36) (k := 86) (n := 3528) (j := (Int32.toNatClampNeg (126 + x1))) C (by decide) (ce86) g6 rfl dX9_keepPast_36 ?_
          refine r_topM (fun M7 eM7 => ?_)
          replace h := h M7 eM7
          obtain ⟨v8, ev8⟩ : ∃ z : Int32, z = x1 + 1 := ⟨_, rfl⟩
          replace h := h v8 ev8
          refine r_iinc (pc := 37) (v := v8) (lv2 := [(1, .int v8), (0, .ref (ad X 85))]) C 1 dX9_keepPast_37 rfl (by rw [ev8]; rfl) (by decide) rfl ?_
          refine r_goto (pc := 40) (tgt := 2) C dX9_keepPast_40 (by decide) ?_
          refine r_sub (lv2 := [(0, .ref (ad X 85)), (1, .int v8)]) [1, 0] rfl ?_
          exact ih _ _ h
  unfold w_X9_keepPast at h
  refine r_iconst (pc := 0) (v := 0) C dX9_keepPast_0 (by decide) ?_
  refine r_istore_n (pc := 1) (lv2 := [(1, .int 0), (0, .ref (ad X 85))]) C dX9_keepPast_1 (by decide) rfl ?_
  obtain ⟨n1, h⟩ := h
  refine r_sub (lv2 := [(0, .ref (ad X 85)), (1, .int 0)]) [1, 0] rfl ?_
  exact hL2  _ _ _ h
theorem yd_X9_undo : yX9_undo.cls ≠ "java/lang/invoke/MethodHandle" ∧ yX9_undo.cls ≠ "java/lang/invoke/VarHandle" ∧ (parseMethodDescriptor yX9_undo.desc).map (fun d => d.parameters.length) = some 0 := by decide +kernel
def w_X9_undo  (M : Mem)  (Q : Int32 → Mem → Prop) : Prop :=
  ((¬ (M 85 1) = 0) → (∀ v2 : Int32, v2 = ((M 85 1) - 1) → (∀ M3 : Mem, M3 = ms M 85 1 v2 → (w_X9_copyTown  M3 (126 + (126 * (M3 85 1))) 0 (fun M4 => Q (M4 85 1) M4))))) ∧ (((M 85 1) = 0) → (Q (-1000002) M))
abbrev rm_X9_undo : Room := { frames := 6, cells := 0, slots := 0, locals := 120 }
set_option maxHeartbeats 4000000 in
set_option maxRecDepth 100000 in
theorem c_X9_undo (X : Cx)  (M : Mem)  (Q : Int32 → Mem → Prop) (h : w_X9_undo  M  Q) : Ct yX9_undo cX9_undo 1 (some .int) rm_X9_undo X M [.ref (ad X 85)] (Qi X Q) := by
  refine ct_of (own := RX9) (lv := [(0, .ref (ad X 85))]) rfl (by decide) (Nat.le_of_ble_eq_true rfl) rfl ?_
  intro K C
  unfold w_X9_undo at h
  refine r_aload_n (pc := 0) C 0 dX9_undo_0 rfl ?_
  refine r_get (pc := 1) (k := 85) (j := 1) (Cn := RX9) (T := TX9) (N := 21) C (by decide) (ce85 _) rfl iaX9 (by decide) aw325 rfl rfl dX9_undo_1 ?_
  refine r_if_ne (pc := 4) (tgt := 10) C dX9_undo_4 (by decide) (fun c1 => ?_) (fun c1 => ?_)
  · have h := h.1 c1
    refine r_aload_n (pc := 10) C 0 dX9_undo_10 rfl ?_
    refine r_dup (pc := 11) C dX9_undo_11 rfl ?_
    refine r_get (pc := 12) (k := 85) (j := 1) (Cn := RX9) (T := TX9) (N := 21) C (by decide) (ce85 _) rfl iaX9 (by decide) aw325 rfl rfl dX9_undo_12 ?_
    refine r_iconst (pc := 15) (v := 1) C dX9_undo_15 (by decide) ?_
    refine r_isub (pc := 16) C dX9_undo_16 ?_
    refine r_topi (fun v2 ev2 => ?_)
    replace h := h v2 ev2
    refine r_put (pc := 17) (k := 85) (j := 1) (Cn := RX9) (T := TX9) (N := 21) (host := "") C (by decide) (ce85 _) rfl iaX9 (by decide) (ce85 _) tyX9_ok nmX9 aw325 rfl rfl (tyX9_ok 1 (by decide)) (Nat.le_of_ble_eq_true rfl) dX9_undo_17 ?_
    refine r_topM (fun M3 eM3 => ?_)
    replace h := h M3 eM3
    refine r_aload_n (pc := 20) C 0 dX9_undo_20 rfl ?_
    refine r_bipush (pc := 21) (v := 126) C dX9_undo_21 (by decide) ?_
    refine r_bipush (pc := 23) (v := 126) C dX9_undo_23 (by decide) ?_
    refine r_aload_n (pc := 25) C 0 dX9_undo_25 rfl ?_
    refine r_get (pc := 26) (k := 85) (j := 1) (Cn := RX9) (T := TX9) (N := 21) C (by decide) (ce85 _) rfl iaX9 (by decide) aw325 rfl rfl dX9_undo_26 ?_
    refine r_imul (pc := 29) C dX9_undo_29 ?_
    refine r_iadd (pc := 30) C dX9_undo_30 ?_
    refine r_iconst (pc := 31) (v := 0) C dX9_undo_31 (by decide) ?_
    have hM := c_X9_copyTown X  M3 (126 + (126 * (M3 85 1))) 0 _ h
    refine q_s0 (s1 := List.reverse [.int (126 + (126 * (M3 85 1))), .int 0] ++ .ref (ad X 85) :: []) rfl ?_
    refine r_callVv (pc := 32) (k := 85) (As := [.int (126 + (126 * (M3 85 1))), .int 0]) (st := []) C 2 (by decide) (ce85 _) rfl aw377 aw378 hM aw376 aw379 aw5 yd_X9_copyTown ⟨rfl, rfl⟩ ⟨Nat.le_of_ble_eq_true rfl, Nat.le_of_ble_eq_true rfl⟩ rfl (Nat.le_of_ble_eq_true rfl) dX9_undo_32 (fun M4 h => ?_)
    refine r_aload_n (pc := 35) C 0 dX9_undo_35 rfl ?_
    refine r_get (pc := 36) (k := 85) (j := 1) (Cn := RX9) (T := TX9) (N := 21) C (by decide) (ce85 _) rfl iaX9 (by decide) aw325 rfl rfl dX9_undo_36 ?_
    exact r_iret (pc := 39) C dX9_undo_39 h
  · have h := h.2 c1
    refine r_ldc (pc := 7) C aw408 dX9_undo_7 ?_
    exact r_iret (pc := 9) C dX9_undo_9 h
theorem yd_X9_isPerson : yX9_isPerson.cls ≠ "java/lang/invoke/MethodHandle" ∧ yX9_isPerson.cls ≠ "java/lang/invoke/VarHandle" ∧ (parseMethodDescriptor yX9_isPerson.desc).map (fun d => d.parameters.length) = some 1 := by decide +kernel
def w_X9_isPerson  (M : Mem) (x1 : Int32) (Q : Int32 → Mem → Prop) : Prop :=
  w_X9_in  M (Int32.toInt64 x1) 0 (Int32.toInt64 ((M 86 3) - 1)) (fun r2 M1 => vz r2 ∧ Q r2 M1)
abbrev rm_X9_isPerson : Room := { frames := 6, cells := 0, slots := 0, locals := 120 }
set_option maxHeartbeats 4000000 in
set_option maxRecDepth 100000 in
theorem c_X9_isPerson (X : Cx)  (M : Mem) (x1 : Int32) (Q : Int32 → Mem → Prop) (h : w_X9_isPerson  M x1 Q) : Ct yX9_isPerson cX9_isPerson 2 (some .boolean) rm_X9_isPerson X M [.ref (ad X 85), .int x1] (Qi X Q) := by
  refine ct_of (own := RX9) (lv := [(0, .ref (ad X 85)), (1, .int x1)]) rfl (by decide) (Nat.le_of_ble_eq_true rfl) rfl ?_
  intro K C
  unfold w_X9_isPerson at h
  refine r_iload_n (pc := 0) C 1 dX9_isPerson_0 rfl ?_
  refine r_i2l (pc := 1) C dX9_isPerson_1 ?_
  refine r_lconst (pc := 2) (v := 0) C dX9_isPerson_2 (by decide) ?_
  refine r_aload_n (pc := 3) C 0 dX9_isPerson_3 rfl ?_
  refine r_get (pc := 4) (k := 85) (j := 0) (Cn := RX9) (T := TX9) (N := 21) C (by decide) (ce85 _) rfl iaX9 (by decide) aw103 rfl rfl dX9_isPerson_4 ?_
  refine r_iconst (pc := 7) (v := 3) C dX9_isPerson_7 (by decide) ?_
  refine q_iald (pc := 8) (k := 86) (n := 3528) (j := 3) C (by decide) (ce86 _) (in_lit (by decide)) (by decide) dX9_isPerson_8 ?_
  refine r_iconst (pc := 9) (v := 1) C dX9_isPerson_9 (by decide) ?_
  refine r_isub (pc := 10) C dX9_isPerson_10 ?_
  refine r_i2l (pc := 11) C dX9_isPerson_11 ?_
  have hM := c_X9_in X  M (Int32.toInt64 x1) 0 (Int32.toInt64 ((M 86 3) - 1)) _ h
  refine q_s0 (s1 := List.reverse [.long (Int32.toInt64 x1), .long 0, .long (Int32.toInt64 ((M 86 3) - 1))] ++ []) rfl ?_
  refine r_callSi (pc := 12) (As := [.long (Int32.toInt64 x1), .long 0, .long (Int32.toInt64 ((M 86 3) - 1))]) (st := []) C 3 hM aw147 aw148 aw149 aw5 yd_X9_in ⟨rfl, rfl⟩ ⟨Nat.le_of_ble_eq_true rfl, Nat.le_of_ble_eq_true rfl⟩ rfl (Nat.le_of_ble_eq_true rfl) dX9_isPerson_12 (fun r2 M1 h => ?_)
  exact r_zret (pc := 15) C dX9_isPerson_15 h.1 h.2
theorem yd_X9_isDoor : yX9_isDoor.cls ≠ "java/lang/invoke/MethodHandle" ∧ yX9_isDoor.cls ≠ "java/lang/invoke/VarHandle" ∧ (parseMethodDescriptor yX9_isDoor.desc).map (fun d => d.parameters.length) = some 1 := by decide +kernel
def w_X9_isDoor  (M : Mem) (x1 : Int32) (Q : Int32 → Mem → Prop) : Prop :=
  w_X9_in  M (Int32.toInt64 x1) 0 (Int32.toInt64 ((M 86 2) - 1)) (fun r2 M1 => vz r2 ∧ Q r2 M1)
abbrev rm_X9_isDoor : Room := { frames := 6, cells := 0, slots := 0, locals := 120 }
set_option maxHeartbeats 4000000 in
set_option maxRecDepth 100000 in
theorem c_X9_isDoor (X : Cx)  (M : Mem) (x1 : Int32) (Q : Int32 → Mem → Prop) (h : w_X9_isDoor  M x1 Q) : Ct yX9_isDoor cX9_isDoor 2 (some .boolean) rm_X9_isDoor X M [.ref (ad X 85), .int x1] (Qi X Q) := by
  refine ct_of (own := RX9) (lv := [(0, .ref (ad X 85)), (1, .int x1)]) rfl (by decide) (Nat.le_of_ble_eq_true rfl) rfl ?_
  intro K C
  unfold w_X9_isDoor at h
  refine r_iload_n (pc := 0) C 1 dX9_isDoor_0 rfl ?_
  refine r_i2l (pc := 1) C dX9_isDoor_1 ?_
  refine r_lconst (pc := 2) (v := 0) C dX9_isDoor_2 (by decide) ?_
  refine r_aload_n (pc := 3) C 0 dX9_isDoor_3 rfl ?_
  refine r_get (pc := 4) (k := 85) (j := 0) (Cn := RX9) (T := TX9) (N := 21) C (by decide) (ce85 _) rfl iaX9 (by decide) aw103 rfl rfl dX9_isDoor_4 ?_
  refine r_iconst (pc := 7) (v := 2) C dX9_isDoor_7 (by decide) ?_
  refine q_iald (pc := 8) (k := 86) (n := 3528) (j := 2) C (by decide) (ce86 _) (in_lit (by decide)) (by decide) dX9_isDoor_8 ?_
  refine r_iconst (pc := 9) (v := 1) C dX9_isDoor_9 (by decide) ?_
  refine r_isub (pc := 10) C dX9_isDoor_10 ?_
  refine r_i2l (pc := 11) C dX9_isDoor_11 ?_
  have hM := c_X9_in X  M (Int32.toInt64 x1) 0 (Int32.toInt64 ((M 86 2) - 1)) _ h
  refine q_s0 (s1 := List.reverse [.long (Int32.toInt64 x1), .long 0, .long (Int32.toInt64 ((M 86 2) - 1))] ++ []) rfl ?_
  refine r_callSi (pc := 12) (As := [.long (Int32.toInt64 x1), .long 0, .long (Int32.toInt64 ((M 86 2) - 1))]) (st := []) C 3 hM aw147 aw148 aw149 aw5 yd_X9_in ⟨rfl, rfl⟩ ⟨Nat.le_of_ble_eq_true rfl, Nat.le_of_ble_eq_true rfl⟩ rfl (Nat.le_of_ble_eq_true rfl) dX9_isDoor_12 (fun r2 M1 h => ?_)
  exact r_zret (pc := 15) C dX9_isDoor_15 h.1 h.2
theorem yd_X9_isRoom : yX9_isRoom.cls ≠ "java/lang/invoke/MethodHandle" ∧ yX9_isRoom.cls ≠ "java/lang/invoke/VarHandle" ∧ (parseMethodDescriptor yX9_isRoom.desc).map (fun d => d.parameters.length) = some 1 := by decide +kernel
def w_X9_isRoom  (M : Mem) (x1 : Int32) (Q : Int32 → Mem → Prop) : Prop :=
  w_X9_in  M (Int32.toInt64 x1) 0 (Int32.toInt64 ((M 86 0) - 1)) (fun r2 M1 => vz r2 ∧ Q r2 M1)
abbrev rm_X9_isRoom : Room := { frames := 6, cells := 0, slots := 0, locals := 120 }
set_option maxHeartbeats 4000000 in
set_option maxRecDepth 100000 in
theorem c_X9_isRoom (X : Cx)  (M : Mem) (x1 : Int32) (Q : Int32 → Mem → Prop) (h : w_X9_isRoom  M x1 Q) : Ct yX9_isRoom cX9_isRoom 2 (some .boolean) rm_X9_isRoom X M [.ref (ad X 85), .int x1] (Qi X Q) := by
  refine ct_of (own := RX9) (lv := [(0, .ref (ad X 85)), (1, .int x1)]) rfl (by decide) (Nat.le_of_ble_eq_true rfl) rfl ?_
  intro K C
  unfold w_X9_isRoom at h
  refine r_iload_n (pc := 0) C 1 dX9_isRoom_0 rfl ?_
  refine r_i2l (pc := 1) C dX9_isRoom_1 ?_
  refine r_lconst (pc := 2) (v := 0) C dX9_isRoom_2 (by decide) ?_
  refine r_aload_n (pc := 3) C 0 dX9_isRoom_3 rfl ?_
  refine r_get (pc := 4) (k := 85) (j := 0) (Cn := RX9) (T := TX9) (N := 21) C (by decide) (ce85 _) rfl iaX9 (by decide) aw103 rfl rfl dX9_isRoom_4 ?_
  refine r_iconst (pc := 7) (v := 0) C dX9_isRoom_7 (by decide) ?_
  refine q_iald (pc := 8) (k := 86) (n := 3528) (j := 0) C (by decide) (ce86 _) (in_lit (by decide)) (by decide) dX9_isRoom_8 ?_
  refine r_iconst (pc := 9) (v := 1) C dX9_isRoom_9 (by decide) ?_
  refine r_isub (pc := 10) C dX9_isRoom_10 ?_
  refine r_i2l (pc := 11) C dX9_isRoom_11 ?_
  have hM := c_X9_in X  M (Int32.toInt64 x1) 0 (Int32.toInt64 ((M 86 0) - 1)) _ h
  refine q_s0 (s1 := List.reverse [.long (Int32.toInt64 x1), .long 0, .long (Int32.toInt64 ((M 86 0) - 1))] ++ []) rfl ?_
  refine r_callSi (pc := 12) (As := [.long (Int32.toInt64 x1), .long 0, .long (Int32.toInt64 ((M 86 0) - 1))]) (st := []) C 3 hM aw147 aw148 aw149 aw5 yd_X9_in ⟨rfl, rfl⟩ ⟨Nat.le_of_ble_eq_true rfl, Nat.le_of_ble_eq_true rfl⟩ rfl (Nat.le_of_ble_eq_true rfl) dX9_isRoom_12 (fun r2 M1 h => ?_)
  exact r_zret (pc := 15) C dX9_isRoom_15 h.1 h.2
theorem yd_X9_timesOf : yX9_timesOf.cls ≠ "java/lang/invoke/MethodHandle" ∧ yX9_timesOf.cls ≠ "java/lang/invoke/VarHandle" ∧ (parseMethodDescriptor yX9_timesOf.desc).map (fun d => d.parameters.length) = some 3 := by decide +kernel
def w_X9_timesOf  (M : Mem) (x1 : Int32) (x2 : Int32) (x3 : Int32) (Q : Int32 → Mem → Prop) : Prop :=
  ∀ v1 : Int32, v1 = (((x1 + 54) + (6 * x2)) + x3) → (vp_in v1 3528 ∧ (Q (M 86 (Int32.toNatClampNeg v1)) M))
abbrev rm_X9_timesOf : Room := { frames := 3, cells := 0, slots := 0, locals := 60 }
set_option maxHeartbeats 4000000 in
set_option maxRecDepth 100000 in
theorem c_X9_timesOf (X : Cx)  (M : Mem) (x1 : Int32) (x2 : Int32) (x3 : Int32) (Q : Int32 → Mem → Prop) (h : w_X9_timesOf  M x1 x2 x3 Q) : Ct yX9_timesOf cX9_timesOf 4 (some .int) rm_X9_timesOf X M [.ref (ad X 85), .int x1, .int x2, .int x3] (Qi X Q) := by
  refine ct_of (own := RX9) (lv := [(0, .ref (ad X 85)), (1, .int x1), (2, .int x2), (3, .int x3)]) rfl (by decide) (Nat.le_of_ble_eq_true rfl) rfl ?_
  intro K C
  unfold w_X9_timesOf at h
  refine r_aload_n (pc := 0) C 0 dX9_timesOf_0 rfl ?_
  refine r_get (pc := 1) (k := 85) (j := 0) (Cn := RX9) (T := TX9) (N := 21) C (by decide) (ce85 _) rfl iaX9 (by decide) aw103 rfl rfl dX9_timesOf_1 ?_
  refine r_iload_n (pc := 4) C 1 dX9_timesOf_4 rfl ?_
  refine r_bipush (pc := 5) (v := 54) C dX9_timesOf_5 (by decide) ?_
  refine r_iadd (pc := 7) C dX9_timesOf_7 ?_
  refine r_bipush (pc := 8) (v := 6) C dX9_timesOf_8 (by decide) ?_
  refine r_iload_n (pc := 10) C 2 dX9_timesOf_10 rfl ?_
  refine r_imul (pc := 11) C dX9_timesOf_11 ?_
  refine r_iadd (pc := 12) C dX9_timesOf_12 ?_
  refine r_iload_n (pc := 13) C 3 dX9_timesOf_13 rfl ?_
  refine r_iadd (pc := 14) C dX9_timesOf_14 ?_
  refine r_topi (fun v1 ev1 => ?_)
  replace h := h v1 ev1
  obtain ⟨g2, h⟩ := h
  refine q_iald (pc := 15) (k := 86) (n := 3528) (j := (Int32.toNatClampNeg v1)) C (by decide) (ce86 _) g2 rfl dX9_timesOf_15 ?_
  exact r_iret (pc := 16) C dX9_timesOf_16 h
theorem yd_X9_freshOf : yX9_freshOf.cls ≠ "java/lang/invoke/MethodHandle" ∧ yX9_freshOf.cls ≠ "java/lang/invoke/VarHandle" ∧ (parseMethodDescriptor yX9_freshOf.desc).map (fun d => d.parameters.length) = some 3 := by decide +kernel
def wJ_X9_freshOf_66  (Q : Int32 → Mem → Prop)  (M : Mem) (x4 : Int32) (s0 : Int32) : Prop :=
  ((s0 = 0) → (Q (x4 / 2) M)) ∧ ((¬ s0 = 0) → (Q x4 M))
def wJ_X9_freshOf_61  (Q : Int32 → Mem → Prop)  (M : Mem) (x4 : Int32) : Prop :=
  wJ_X9_freshOf_66  Q  M x4 1
def w_X9_freshOf  (M : Mem) (x1 : Int32) (x2 : Int32) (x3 : Int32) (Q : Int32 → Mem → Prop) : Prop :=
  w_X9_timesOf  M x1 x2 x3 (fun r2 M1 => ((r2 = 0) → (wJ_X9_freshOf_61  Q  M1 r2)) ∧ ((¬ r2 = 0) → (∀ v4 : Int32, v4 = (x1 + 1) → (vp_in v4 3528 ∧ ((((M1 86 (Int32.toNatClampNeg v4)) = 0) → (wJ_X9_freshOf_61  Q  M1 r2)) ∧ ((¬ (M1 86 (Int32.toNatClampNeg v4)) = 0) → (∀ v7 : Int32, v7 = (x1 + 4) → (vp_in v7 3528 ∧ (∀ v9 : Int32, v9 = (((x1 + 90) + (6 * x2)) + x3) → (vp_in v9 3528 ∧ (∀ v11 : Int32, v11 = (x1 + 1) → (vp_in v11 3528 ∧ ((((M1 86 (Int32.toNatClampNeg v11)) < ((M1 86 (Int32.toNatClampNeg v7)) - (M1 86 (Int32.toNatClampNeg v9)))) → (wJ_X9_freshOf_66  Q  M1 r2 0)) ∧ ((¬ (M1 86 (Int32.toNatClampNeg v11)) < ((M1 86 (Int32.toNatClampNeg v7)) - (M1 86 (Int32.toNatClampNeg v9)))) → (wJ_X9_freshOf_61  Q  M1 r2)))))))))))))))
abbrev rm_X9_freshOf : Room := { frames := 6, cells := 0, slots := 0, locals := 120 }
set_option maxHeartbeats 4000000 in
set_option maxRecDepth 100000 in
theorem c_X9_freshOf (X : Cx)  (M : Mem) (x1 : Int32) (x2 : Int32) (x3 : Int32) (Q : Int32 → Mem → Prop) (h : w_X9_freshOf  M x1 x2 x3 Q) : Ct yX9_freshOf cX9_freshOf 6 (some .int) rm_X9_freshOf X M [.ref (ad X 85), .int x1, .int x2, .int x3] (Qi X Q) := by
  refine ct_of (own := RX9) (lv := [(0, .ref (ad X 85)), (1, .int x1), (2, .int x2), (3, .int x3)]) rfl (by decide) (Nat.le_of_ble_eq_true rfl) rfl ?_
  intro K C
  have hJ66 : ∀  (M : Mem) (x4 : Int32) (s0 : Int32), wJ_X9_freshOf_66  Q  M x4 s0 → WX K X 6 (Qi X Q) M 66 [(4, .int x4)] [.int s0] := by
    intro  M x4 s0 h
    unfold wJ_X9_freshOf_66 at h
    refine r_istore (pc := 66) (lv2 := [(5, .int s0), (4, .int x4)]) C dX9_freshOf_66 (by decide) rfl ?_
    refine r_iload (pc := 68) C 0 dX9_freshOf_68 rfl ?_
    refine r_if_eq (pc := 70) (tgt := 78) C dX9_freshOf_70 (by decide) (fun c1 => ?_) (fun c1 => ?_)
    · have h := h.1 c1
      refine r_iload (pc := 78) C 1 dX9_freshOf_78 rfl ?_
      refine r_iconst (pc := 80) (v := 2) C dX9_freshOf_80 (by decide) ?_
      refine r_idiv (pc := 81) C dX9_freshOf_81 (by decide) ?_
      exact r_iret (pc := 82) C dX9_freshOf_82 h
    · have h := h.2 c1
      refine r_iload (pc := 73) C 1 dX9_freshOf_73 rfl ?_
      refine r_goto (pc := 75) (tgt := 82) C dX9_freshOf_75 (by decide) ?_
      exact r_iret (pc := 82) C dX9_freshOf_82 h
  have hJ61 : ∀  (M : Mem) (x4 : Int32), wJ_X9_freshOf_61  Q  M x4 → WX K X 6 (Qi X Q) M 61 [(4, .int x4)] [] := by
    intro  M x4 h
    unfold wJ_X9_freshOf_61 at h
    refine r_iconst (pc := 61) (v := 1) C dX9_freshOf_61 (by decide) ?_
    refine r_goto (pc := 62) (tgt := 66) C dX9_freshOf_62 (by decide) ?_
    refine r_sub (lv2 := [(4, .int x4)]) [0] rfl ?_
    exact hJ66  _ _ _ h
  unfold w_X9_freshOf at h
  refine r_aload_n (pc := 0) C 0 dX9_freshOf_0 rfl ?_
  refine r_iload_n (pc := 1) C 1 dX9_freshOf_1 rfl ?_
  refine r_iload_n (pc := 2) C 2 dX9_freshOf_2 rfl ?_
  refine r_iload_n (pc := 3) C 3 dX9_freshOf_3 rfl ?_
  have hM := c_X9_timesOf X  M x1 x2 x3 _ h
  refine q_s0 (s1 := List.reverse [.int x1, .int x2, .int x3] ++ .ref (ad X 85) :: []) rfl ?_
  refine r_callVi (pc := 4) (k := 85) (As := [.int x1, .int x2, .int x3]) (st := []) C 3 (by decide) (ce85 _) rfl aw529 aw530 hM aw528 aw531 aw5 yd_X9_timesOf ⟨rfl, rfl⟩ ⟨Nat.le_of_ble_eq_true rfl, Nat.le_of_ble_eq_true rfl⟩ rfl (Nat.le_of_ble_eq_true rfl) dX9_freshOf_4 (fun r2 M1 h => ?_)
  refine r_istore (pc := 7) (lv2 := [(4, .int r2), (0, .ref (ad X 85)), (1, .int x1), (2, .int x2), (3, .int x3)]) C dX9_freshOf_7 (by decide) rfl ?_
  refine r_iload (pc := 9) C 0 dX9_freshOf_9 rfl ?_
  refine r_if_eq (pc := 11) (tgt := 61) C dX9_freshOf_11 (by decide) (fun c3 => ?_) (fun c3 => ?_)
  · have h := h.1 c3
    refine r_sub (lv2 := [(4, .int r2)]) [0] rfl ?_
    exact hJ61  _ _ h
  · have h := h.2 c3
    refine r_aload_n (pc := 14) C 1 dX9_freshOf_14 rfl ?_
    refine r_get (pc := 15) (k := 85) (j := 0) (Cn := RX9) (T := TX9) (N := 21) C (by decide) (ce85 _) rfl iaX9 (by decide) aw103 rfl rfl dX9_freshOf_15 ?_
    refine r_iload_n (pc := 18) C 2 dX9_freshOf_18 rfl ?_
    refine r_iconst (pc := 19) (v := 1) C dX9_freshOf_19 (by decide) ?_
    refine r_iadd (pc := 20) C dX9_freshOf_20 ?_
    refine r_topi (fun v4 ev4 => ?_)
    replace h := h v4 ev4
    obtain ⟨g5, h⟩ := h
    refine q_iald (pc := 21) (k := 86) (n := 3528) (j := (Int32.toNatClampNeg v4)) C (by decide) (ce86 _) g5 rfl dX9_freshOf_21 ?_
    refine r_if_eq (pc := 22) (tgt := 61) C dX9_freshOf_22 (by decide) (fun c6 => ?_) (fun c6 => ?_)
    · have h := h.1 c6
      refine r_sub (lv2 := [(4, .int r2)]) [0] rfl ?_
      exact hJ61  _ _ h
    · have h := h.2 c6
      refine r_aload_n (pc := 25) C 1 dX9_freshOf_25 rfl ?_
      refine r_get (pc := 26) (k := 85) (j := 0) (Cn := RX9) (T := TX9) (N := 21) C (by decide) (ce85 _) rfl iaX9 (by decide) aw103 rfl rfl dX9_freshOf_26 ?_
      refine r_iload_n (pc := 29) C 2 dX9_freshOf_29 rfl ?_
      refine r_iconst (pc := 30) (v := 4) C dX9_freshOf_30 (by decide) ?_
      refine r_iadd (pc := 31) C dX9_freshOf_31 ?_
      refine r_topi (fun v7 ev7 => ?_)
      replace h := h v7 ev7
      obtain ⟨g8, h⟩ := h
      refine q_iald (pc := 32) (k := 86) (n := 3528) (j := (Int32.toNatClampNeg v7)) C (by decide) (ce86 _) g8 rfl dX9_freshOf_32 ?_
      refine r_aload_n (pc := 33) C 1 dX9_freshOf_33 rfl ?_
      refine r_get (pc := 34) (k := 85) (j := 0) (Cn := RX9) (T := TX9) (N := 21) C (by decide) (ce85 _) rfl iaX9 (by decide) aw103 rfl rfl dX9_freshOf_34 ?_
      refine r_iload_n (pc := 37) C 2 dX9_freshOf_37 rfl ?_
      refine r_bipush (pc := 38) (v := 90) C dX9_freshOf_38 (by decide) ?_
      refine r_iadd (pc := 40) C dX9_freshOf_40 ?_
      refine r_bipush (pc := 41) (v := 6) C dX9_freshOf_41 (by decide) ?_
      refine r_iload_n (pc := 43) C 3 dX9_freshOf_43 rfl ?_
      refine r_imul (pc := 44) C dX9_freshOf_44 ?_
      refine r_iadd (pc := 45) C dX9_freshOf_45 ?_
      refine r_iload_n (pc := 46) C 4 dX9_freshOf_46 rfl ?_
      refine r_iadd (pc := 47) C dX9_freshOf_47 ?_
      refine r_topi (fun v9 ev9 => ?_)
      replace h := h v9 ev9
      obtain ⟨g10, h⟩ := h
      refine q_iald (pc := 48) (k := 86) (n := 3528) (j := (Int32.toNatClampNeg v9)) C (by decide) (ce86 _) g10 rfl dX9_freshOf_48 ?_
      refine r_isub (pc := 49) C dX9_freshOf_49 ?_
      refine r_aload_n (pc := 50) C 1 dX9_freshOf_50 rfl ?_
      refine r_get (pc := 51) (k := 85) (j := 0) (Cn := RX9) (T := TX9) (N := 21) C (by decide) (ce85 _) rfl iaX9 (by decide) aw103 rfl rfl dX9_freshOf_51 ?_
      refine r_iload_n (pc := 54) C 2 dX9_freshOf_54 rfl ?_
      refine r_iconst (pc := 55) (v := 1) C dX9_freshOf_55 (by decide) ?_
      refine r_iadd (pc := 56) C dX9_freshOf_56 ?_
      refine r_topi (fun v11 ev11 => ?_)
      replace h := h v11 ev11
      obtain ⟨g12, h⟩ := h
      refine q_iald (pc := 57) (k := 86) (n := 3528) (j := (Int32.toNatClampNeg v11)) C (by decide) (ce86 _) g12 rfl dX9_freshOf_57 ?_
      refine r_icmp_gt (pc := 58) (tgt := 65) C dX9_freshOf_58 (by decide) (fun c13 => ?_) (fun c13 => ?_)
      · have h := h.1 c13
        refine r_iconst (pc := 65) (v := 0) C dX9_freshOf_65 (by decide) ?_
        refine r_sub (lv2 := [(4, .int r2)]) [0] rfl ?_
        exact hJ66  _ _ _ h
      · have h := h.2 c13
        refine r_sub (lv2 := [(4, .int r2)]) [0] rfl ?_
        exact hJ61  _ _ h
theorem yd_X9_weightOf : yX9_weightOf.cls ≠ "java/lang/invoke/MethodHandle" ∧ yX9_weightOf.cls ≠ "java/lang/invoke/VarHandle" ∧ (parseMethodDescriptor yX9_weightOf.desc).map (fun d => d.parameters.length) = some 3 := by decide +kernel
def w_X9_weightOf  (M : Mem) (x1 : Int32) (x2 : Int32) (x3 : Int32) (Q : Int32 → Mem → Prop) : Prop :=
  w_X9_timesOf  M x1 x2 x3 (fun r2 M1 => ∀ v3 : Int32, v3 = ((x1 + 18) + x2) → (vp_in v3 3528 ∧ (∀ v5 : Int32, v5 = (M1 86 (Int32.toNatClampNeg v3)) → ((v5 = 2 → (w_X9_freshOf  M1 x1 x2 x3 (fun r8 M7 => ((¬ x3 = 0) → (Q (r8 + 0) M7)) ∧ ((x3 = 0) → (Q (r8 + 9) M7))))) ∧ (v5 = 3 → (((¬ (r2 - r2 / 3 * 3) = 0) → (w_X9_freshOf  M1 x1 x2 x3 (fun r13 M12 => Q r13 M12))) ∧ (((r2 - r2 / 3 * 3) = 0) → (Q 0 M1)))) ∧ (v5 = 4 → (((r2 ≤ 0) → (Q 0 M1)) ∧ ((¬ r2 ≤ 0) → (Q 1 M1)))) ∧ (v5 = 5 → (((r2 ≤ 0) → (Q 0 M1)) ∧ ((¬ r2 ≤ 0) → (Q 2 M1)))) ∧ (¬ v5 = 2 → ¬ v5 = 3 → ¬ v5 = 4 → ¬ v5 = 5 → (w_X9_freshOf  M1 x1 x2 x3 (fun r19 M18 => Q r19 M18)))))))
abbrev rm_X9_weightOf : Room := { frames := 9, cells := 0, slots := 0, locals := 180 }
set_option maxHeartbeats 4000000 in
set_option maxRecDepth 100000 in
theorem c_X9_weightOf (X : Cx)  (M : Mem) (x1 : Int32) (x2 : Int32) (x3 : Int32) (Q : Int32 → Mem → Prop) (h : w_X9_weightOf  M x1 x2 x3 Q) : Ct yX9_weightOf cX9_weightOf 5 (some .int) rm_X9_weightOf X M [.ref (ad X 85), .int x1, .int x2, .int x3] (Qi X Q) := by
  refine ct_of (own := RX9) (lv := [(0, .ref (ad X 85)), (1, .int x1), (2, .int x2), (3, .int x3)]) rfl (by decide) (Nat.le_of_ble_eq_true rfl) rfl ?_
  intro K C
  unfold w_X9_weightOf at h
  refine r_aload_n (pc := 0) C 0 dX9_weightOf_0 rfl ?_
  refine r_iload_n (pc := 1) C 1 dX9_weightOf_1 rfl ?_
  refine r_iload_n (pc := 2) C 2 dX9_weightOf_2 rfl ?_
  refine r_iload_n (pc := 3) C 3 dX9_weightOf_3 rfl ?_
  have hM := c_X9_timesOf X  M x1 x2 x3 _ h
  refine q_s0 (s1 := List.reverse [.int x1, .int x2, .int x3] ++ .ref (ad X 85) :: []) rfl ?_
  refine r_callVi (pc := 4) (k := 85) (As := [.int x1, .int x2, .int x3]) (st := []) C 3 (by decide) (ce85 _) rfl aw529 aw530 hM aw528 aw531 aw5 yd_X9_timesOf ⟨rfl, rfl⟩ ⟨Nat.le_of_ble_eq_true rfl, Nat.le_of_ble_eq_true rfl⟩ rfl (Nat.le_of_ble_eq_true rfl) dX9_weightOf_4 (fun r2 M1 h => ?_)
  refine r_istore (pc := 7) (lv2 := [(4, .int r2), (0, .ref (ad X 85)), (1, .int x1), (2, .int x2), (3, .int x3)]) C dX9_weightOf_7 (by decide) rfl ?_
  refine r_aload_n (pc := 9) C 1 dX9_weightOf_9 rfl ?_
  refine r_get (pc := 10) (k := 85) (j := 0) (Cn := RX9) (T := TX9) (N := 21) C (by decide) (ce85 _) rfl iaX9 (by decide) aw103 rfl rfl dX9_weightOf_10 ?_
  refine r_iload_n (pc := 13) C 2 dX9_weightOf_13 rfl ?_
  refine r_bipush (pc := 14) (v := 18) C dX9_weightOf_14 (by decide) ?_
  refine r_iadd (pc := 16) C dX9_weightOf_16 ?_
  refine r_iload_n (pc := 17) C 3 dX9_weightOf_17 rfl ?_
  refine r_iadd (pc := 18) C dX9_weightOf_18 ?_
  refine r_topi (fun v3 ev3 => ?_)
  replace h := h v3 ev3
  obtain ⟨g4, h⟩ := h
  refine q_iald (pc := 19) (k := 86) (n := 3528) (j := (Int32.toNatClampNeg v3)) C (by decide) (ce86 _) g4 rfl dX9_weightOf_19 ?_
  refine r_topi (fun v5 ev5 => ?_)
  replace h := h v5 ev5
  by_cases e6 : v5 = 2
  · have h := h.1 e6
    refine r_tabIn (pc := 20) (off := 32) (tgt := 52) C 2 e6 dX9_weightOf_20 (by decide) (by decide) (by decide) (by decide) ?_
    refine r_aload_n (pc := 52) C 1 dX9_weightOf_52 rfl ?_
    refine r_iload_n (pc := 53) C 2 dX9_weightOf_53 rfl ?_
    refine r_iload_n (pc := 54) C 3 dX9_weightOf_54 rfl ?_
    refine r_iload_n (pc := 55) C 4 dX9_weightOf_55 rfl ?_
    have hM := c_X9_freshOf X  M1 x1 x2 x3 _ h
    refine q_s0 (s1 := List.reverse [.int x1, .int x2, .int x3] ++ .ref (ad X 85) :: []) rfl ?_
    refine r_callVi (pc := 56) (k := 85) (As := [.int x1, .int x2, .int x3]) (st := []) C 3 (by decide) (ce85 _) rfl aw533 aw534 hM aw532 aw535 aw5 yd_X9_freshOf ⟨rfl, rfl⟩ ⟨Nat.le_of_ble_eq_true rfl, Nat.le_of_ble_eq_true rfl⟩ rfl (Nat.le_of_ble_eq_true rfl) dX9_weightOf_56 (fun r8 M7 h => ?_)
    refine r_iload_n (pc := 59) C 4 dX9_weightOf_59 rfl ?_
    refine r_if_ne (pc := 60) (tgt := 68) C dX9_weightOf_60 (by decide) (fun c9 => ?_) (fun c9 => ?_)
    · have h := h.1 c9
      refine r_iconst (pc := 68) (v := 0) C dX9_weightOf_68 (by decide) ?_
      refine r_iadd (pc := 69) C dX9_weightOf_69 ?_
      exact r_iret (pc := 70) C dX9_weightOf_70 h
    · have h := h.2 c9
      refine r_bipush (pc := 63) (v := 9) C dX9_weightOf_63 (by decide) ?_
      refine r_goto (pc := 65) (tgt := 69) C dX9_weightOf_65 (by decide) ?_
      refine r_iadd (pc := 69) C dX9_weightOf_69 ?_
      exact r_iret (pc := 70) C dX9_weightOf_70 h
  · skip
    by_cases e10 : v5 = 3
    · have h := h.2.1 e10
      refine r_tabIn (pc := 20) (off := 51) (tgt := 71) C 3 e10 dX9_weightOf_20 (by decide) (by decide) (by decide) (by decide) ?_
      refine r_iload (pc := 71) C 0 dX9_weightOf_71 rfl ?_
      refine r_iconst (pc := 73) (v := 3) C dX9_weightOf_73 (by decide) ?_
      refine r_irem (pc := 74) C dX9_weightOf_74 (by decide) ?_
      refine r_if_ne (pc := 75) (tgt := 82) C dX9_weightOf_75 (by decide) (fun c11 => ?_) (fun c11 => ?_)
      · have h := h.1 c11
        refine r_aload_n (pc := 82) C 1 dX9_weightOf_82 rfl ?_
        refine r_iload_n (pc := 83) C 2 dX9_weightOf_83 rfl ?_
        refine r_iload_n (pc := 84) C 3 dX9_weightOf_84 rfl ?_
        refine r_iload_n (pc := 85) C 4 dX9_weightOf_85 rfl ?_
        have hM := c_X9_freshOf X  M1 x1 x2 x3 _ h
        refine q_s0 (s1 := List.reverse [.int x1, .int x2, .int x3] ++ .ref (ad X 85) :: []) rfl ?_
        refine r_callVi (pc := 86) (k := 85) (As := [.int x1, .int x2, .int x3]) (st := []) C 3 (by decide) (ce85 _) rfl aw533 aw534 hM aw532 aw535 aw5 yd_X9_freshOf ⟨rfl, rfl⟩ ⟨Nat.le_of_ble_eq_true rfl, Nat.le_of_ble_eq_true rfl⟩ rfl (Nat.le_of_ble_eq_true rfl) dX9_weightOf_86 (fun r13 M12 h => ?_)
        exact r_iret (pc := 89) C dX9_weightOf_89 h
      · have h := h.2 c11
        refine r_iconst (pc := 78) (v := 0) C dX9_weightOf_78 (by decide) ?_
        refine r_goto (pc := 79) (tgt := 89) C dX9_weightOf_79 (by decide) ?_
        exact r_iret (pc := 89) C dX9_weightOf_89 h
    · skip
      by_cases e14 : v5 = 4
      · have h := h.2.2.1 e14
        refine r_tabIn (pc := 20) (off := 70) (tgt := 90) C 4 e14 dX9_weightOf_20 (by decide) (by decide) (by decide) (by decide) ?_
        refine r_iload (pc := 90) C 0 dX9_weightOf_90 rfl ?_
        refine r_if_le (pc := 92) (tgt := 99) C dX9_weightOf_92 (by decide) (fun c15 => ?_) (fun c15 => ?_)
        · have h := h.1 c15
          refine r_iconst (pc := 99) (v := 0) C dX9_weightOf_99 (by decide) ?_
          exact r_iret (pc := 100) C dX9_weightOf_100 h
        · have h := h.2 c15
          refine r_iconst (pc := 95) (v := 1) C dX9_weightOf_95 (by decide) ?_
          refine r_goto (pc := 96) (tgt := 100) C dX9_weightOf_96 (by decide) ?_
          exact r_iret (pc := 100) C dX9_weightOf_100 h
      · skip
        by_cases e16 : v5 = 5
        · have h := h.2.2.2.1 e16
          refine r_tabIn (pc := 20) (off := 81) (tgt := 101) C 5 e16 dX9_weightOf_20 (by decide) (by decide) (by decide) (by decide) ?_
          refine r_iload (pc := 101) C 0 dX9_weightOf_101 rfl ?_
          refine r_if_le (pc := 103) (tgt := 110) C dX9_weightOf_103 (by decide) (fun c17 => ?_) (fun c17 => ?_)
          · have h := h.1 c17
            refine r_iconst (pc := 110) (v := 0) C dX9_weightOf_110 (by decide) ?_
            exact r_iret (pc := 111) C dX9_weightOf_111 h
          · have h := h.2 c17
            refine r_iconst (pc := 106) (v := 2) C dX9_weightOf_106 (by decide) ?_
            refine r_goto (pc := 107) (tgt := 111) C dX9_weightOf_107 (by decide) ?_
            exact r_iret (pc := 111) C dX9_weightOf_111 h
        · skip
          have h := h.2.2.2.2 e6 e10 e14 e16
          refine r_tabOut (pc := 20) (tgt := 112) C dX9_weightOf_20 (by have ke6 := ne_toInt (n := 2) e6 (by decide); have ke10 := ne_toInt (n := 3) e10 (by decide); have ke14 := ne_toInt (n := 4) e14 (by decide); have ke16 := ne_toInt (n := 5) e16 (by decide); omega) (by decide) ?_
          refine r_aload_n (pc := 112) C 1 dX9_weightOf_112 rfl ?_
          refine r_iload_n (pc := 113) C 2 dX9_weightOf_113 rfl ?_
          refine r_iload_n (pc := 114) C 3 dX9_weightOf_114 rfl ?_
          refine r_iload_n (pc := 115) C 4 dX9_weightOf_115 rfl ?_
          have hM := c_X9_freshOf X  M1 x1 x2 x3 _ h
          refine q_s0 (s1 := List.reverse [.int x1, .int x2, .int x3] ++ .ref (ad X 85) :: []) rfl ?_
          refine r_callVi (pc := 116) (k := 85) (As := [.int x1, .int x2, .int x3]) (st := []) C 3 (by decide) (ce85 _) rfl aw533 aw534 hM aw532 aw535 aw5 yd_X9_freshOf ⟨rfl, rfl⟩ ⟨Nat.le_of_ble_eq_true rfl, Nat.le_of_ble_eq_true rfl⟩ rfl (Nat.le_of_ble_eq_true rfl) dX9_weightOf_116 (fun r19 M18 h => ?_)
          exact r_iret (pc := 119) C dX9_weightOf_119 h
theorem yd_X9_plainFavour : yX9_plainFavour.cls ≠ "java/lang/invoke/MethodHandle" ∧ yX9_plainFavour.cls ≠ "java/lang/invoke/VarHandle" ∧ (parseMethodDescriptor yX9_plainFavour.desc).map (fun d => d.parameters.length) = some 3 := by decide +kernel
def wJ_X9_plainFavour_52  (Q : Int32 → Mem → Prop)  (M : Mem) (x1 : Int32) (x2 : Int32) (x3 : Int32) (s0 : Int32) (s1 : Int32) : Prop :=
  ∀ v1 : Int32, v1 = ((x1 + 48) + x2) → (vp_in v1 3528 ∧ (w_X9_has  M (M 86 (Int32.toNatClampNeg v1)) x3 (fun r4 M3 => ((r4 = 0) → (Q ((s0 + s1) - 0) M3)) ∧ ((¬ r4 = 0) → (Q ((s0 + s1) - 9) M3)))))
def w_X9_plainFavour  (M : Mem) (x1 : Int32) (x2 : Int32) (x3 : Int32) (Q : Int32 → Mem → Prop) : Prop :=
  ∀ v1 : Int32, v1 = ((x1 + 30) + x2) → (vp_in v1 3528 ∧ (∀ v3 : Int32, v3 = ((x1 + 36) + x2) → (vp_in v3 3528 ∧ (∀ v5 : Int32, v5 = (((M 86 (Int32.toNatClampNeg v1)) - 3) + (M 86 (Int32.toNatClampNeg v3))) → (∀ v6 : Int32, v6 = ((x1 + 42) + x2) → (vp_in v6 3528 ∧ (w_X9_has  M (M 86 (Int32.toNatClampNeg v6)) x3 (fun r9 M8 => ((r9 = 0) → (wJ_X9_plainFavour_52  Q  M8 x1 x2 x3 v5 0)) ∧ ((¬ r9 = 0) → (wJ_X9_plainFavour_52  Q  M8 x1 x2 x3 v5 5))))))))))
abbrev rm_X9_plainFavour : Room := { frames := 6, cells := 0, slots := 0, locals := 120 }
set_option maxHeartbeats 4000000 in
set_option maxRecDepth 100000 in
theorem c_X9_plainFavour (X : Cx)  (M : Mem) (x1 : Int32) (x2 : Int32) (x3 : Int32) (Q : Int32 → Mem → Prop) (h : w_X9_plainFavour  M x1 x2 x3 Q) : Ct yX9_plainFavour cX9_plainFavour 5 (some .int) rm_X9_plainFavour X M [.ref (ad X 85), .int x1, .int x2, .int x3] (Qi X Q) := by
  refine ct_of (own := RX9) (lv := [(0, .ref (ad X 85)), (1, .int x1), (2, .int x2), (3, .int x3)]) rfl (by decide) (Nat.le_of_ble_eq_true rfl) rfl ?_
  intro K C
  have hJ52 : ∀  (M : Mem) (x1 : Int32) (x2 : Int32) (x3 : Int32) (s0 : Int32) (s1 : Int32), wJ_X9_plainFavour_52  Q  M x1 x2 x3 s0 s1 → WX K X 5 (Qi X Q) M 52 [(0, .ref (ad X 85)), (1, .int x1), (2, .int x2), (3, .int x3)] [.int s1, .int s0] := by
    intro  M x1 x2 x3 s0 s1 h
    unfold wJ_X9_plainFavour_52 at h
    refine r_iadd (pc := 52) C dX9_plainFavour_52 ?_
    refine r_aload_n (pc := 53) C 0 dX9_plainFavour_53 rfl ?_
    refine r_get (pc := 54) (k := 85) (j := 0) (Cn := RX9) (T := TX9) (N := 21) C (by decide) (ce85 _) rfl iaX9 (by decide) aw103 rfl rfl dX9_plainFavour_54 ?_
    refine r_iload_n (pc := 57) C 1 dX9_plainFavour_57 rfl ?_
    refine r_bipush (pc := 58) (v := 48) C dX9_plainFavour_58 (by decide) ?_
    refine r_iadd (pc := 60) C dX9_plainFavour_60 ?_
    refine r_iload_n (pc := 61) C 2 dX9_plainFavour_61 rfl ?_
    refine r_iadd (pc := 62) C dX9_plainFavour_62 ?_
    refine r_topi (fun v1 ev1 => ?_)
    replace h := h v1 ev1
    obtain ⟨g2, h⟩ := h
    refine q_iald (pc := 63) (k := 86) (n := 3528) (j := (Int32.toNatClampNeg v1)) C (by decide) (ce86 _) g2 rfl dX9_plainFavour_63 ?_
    refine r_iload_n (pc := 64) C 3 dX9_plainFavour_64 rfl ?_
    have hM := c_X9_has X  M (M 86 (Int32.toNatClampNeg v1)) x3 _ h
    refine q_s0 (s1 := List.reverse [.int (M 86 (Int32.toNatClampNeg v1)), .int x3] ++ [.int (s0 + s1)]) rfl ?_
    refine r_callSi (pc := 65) (As := [.int (M 86 (Int32.toNatClampNeg v1)), .int x3]) (st := [.int (s0 + s1)]) C 2 hM aw373 aw374 aw375 aw5 yd_X9_has ⟨rfl, rfl⟩ ⟨Nat.le_of_ble_eq_true rfl, Nat.le_of_ble_eq_true rfl⟩ rfl (Nat.le_of_ble_eq_true rfl) dX9_plainFavour_65 (fun r4 M3 h => ?_)
    refine r_if_eq (pc := 68) (tgt := 76) C dX9_plainFavour_68 (by decide) (fun c5 => ?_) (fun c5 => ?_)
    · have h := h.1 c5
      refine r_iconst (pc := 76) (v := 0) C dX9_plainFavour_76 (by decide) ?_
      refine r_isub (pc := 77) C dX9_plainFavour_77 ?_
      exact r_iret (pc := 78) C dX9_plainFavour_78 h
    · have h := h.2 c5
      refine r_bipush (pc := 71) (v := 9) C dX9_plainFavour_71 (by decide) ?_
      refine r_goto (pc := 73) (tgt := 77) C dX9_plainFavour_73 (by decide) ?_
      refine r_isub (pc := 77) C dX9_plainFavour_77 ?_
      exact r_iret (pc := 78) C dX9_plainFavour_78 h
  unfold w_X9_plainFavour at h
  refine r_aload_n (pc := 0) C 0 dX9_plainFavour_0 rfl ?_
  refine r_get (pc := 1) (k := 85) (j := 0) (Cn := RX9) (T := TX9) (N := 21) C (by decide) (ce85 _) rfl iaX9 (by decide) aw103 rfl rfl dX9_plainFavour_1 ?_
  refine r_iload_n (pc := 4) C 1 dX9_plainFavour_4 rfl ?_
  refine r_bipush (pc := 5) (v := 30) C dX9_plainFavour_5 (by decide) ?_
  refine r_iadd (pc := 7) C dX9_plainFavour_7 ?_
  refine r_iload_n (pc := 8) C 2 dX9_plainFavour_8 rfl ?_
  refine r_iadd (pc := 9) C dX9_plainFavour_9 ?_
  refine r_topi (fun v1 ev1 => ?_)
  replace h := h v1 ev1
  obtain ⟨g2, h⟩ := h
  refine q_iald (pc := 10) (k := 86) (n := 3528) (j := (Int32.toNatClampNeg v1)) C (by decide) (ce86 _) g2 rfl dX9_plainFavour_10 ?_
  refine r_iconst (pc := 11) (v := 3) C dX9_plainFavour_11 (by decide) ?_
  refine r_isub (pc := 12) C dX9_plainFavour_12 ?_
  refine r_aload_n (pc := 13) C 0 dX9_plainFavour_13 rfl ?_
  refine r_get (pc := 14) (k := 85) (j := 0) (Cn := RX9) (T := TX9) (N := 21) C (by decide) (ce85 _) rfl iaX9 (by decide) aw103 rfl rfl dX9_plainFavour_14 ?_
  refine r_iload_n (pc := 17) C 1 dX9_plainFavour_17 rfl ?_
  refine r_bipush (pc := 18) (v := 36) C dX9_plainFavour_18 (by decide) ?_
  refine r_iadd (pc := 20) C dX9_plainFavour_20 ?_
  refine r_iload_n (pc := 21) C 2 dX9_plainFavour_21 rfl ?_
  refine r_iadd (pc := 22) C dX9_plainFavour_22 ?_
  refine r_topi (fun v3 ev3 => ?_)
  replace h := h v3 ev3
  obtain ⟨g4, h⟩ := h
  refine q_iald (pc := 23) (k := 86) (n := 3528) (j := (Int32.toNatClampNeg v3)) C (by decide) (ce86 _) g4 rfl dX9_plainFavour_23 ?_
  refine r_iadd (pc := 24) C dX9_plainFavour_24 ?_
  refine r_topi (fun v5 ev5 => ?_)
  replace h := h v5 ev5
  refine r_istore (pc := 25) (lv2 := [(4, .int v5), (0, .ref (ad X 85)), (1, .int x1), (2, .int x2), (3, .int x3)]) C dX9_plainFavour_25 (by decide) rfl ?_
  refine r_iload (pc := 27) C 0 dX9_plainFavour_27 rfl ?_
  refine r_aload_n (pc := 29) C 1 dX9_plainFavour_29 rfl ?_
  refine r_get (pc := 30) (k := 85) (j := 0) (Cn := RX9) (T := TX9) (N := 21) C (by decide) (ce85 _) rfl iaX9 (by decide) aw103 rfl rfl dX9_plainFavour_30 ?_
  refine r_iload_n (pc := 33) C 2 dX9_plainFavour_33 rfl ?_
  refine r_bipush (pc := 34) (v := 42) C dX9_plainFavour_34 (by decide) ?_
  refine r_iadd (pc := 36) C dX9_plainFavour_36 ?_
  refine r_iload_n (pc := 37) C 3 dX9_plainFavour_37 rfl ?_
  refine r_iadd (pc := 38) C dX9_plainFavour_38 ?_
  refine r_topi (fun v6 ev6 => ?_)
  replace h := h v6 ev6
  obtain ⟨g7, h⟩ := h
  refine q_iald (pc := 39) (k := 86) (n := 3528) (j := (Int32.toNatClampNeg v6)) C (by decide) (ce86 _) g7 rfl dX9_plainFavour_39 ?_
  refine r_iload_n (pc := 40) C 4 dX9_plainFavour_40 rfl ?_
  have hM := c_X9_has X  M (M 86 (Int32.toNatClampNeg v6)) x3 _ h
  refine q_s0 (s1 := List.reverse [.int (M 86 (Int32.toNatClampNeg v6)), .int x3] ++ [.int v5]) rfl ?_
  refine r_callSi (pc := 41) (As := [.int (M 86 (Int32.toNatClampNeg v6)), .int x3]) (st := [.int v5]) C 2 hM aw373 aw374 aw375 aw5 yd_X9_has ⟨rfl, rfl⟩ ⟨Nat.le_of_ble_eq_true rfl, Nat.le_of_ble_eq_true rfl⟩ rfl (Nat.le_of_ble_eq_true rfl) dX9_plainFavour_41 (fun r9 M8 h => ?_)
  refine r_if_eq (pc := 44) (tgt := 51) C dX9_plainFavour_44 (by decide) (fun c10 => ?_) (fun c10 => ?_)
  · have h := h.1 c10
    refine r_iconst (pc := 51) (v := 0) C dX9_plainFavour_51 (by decide) ?_
    refine r_sub (lv2 := [(0, .ref (ad X 85)), (1, .int x1), (2, .int x2), (3, .int x3)]) [1, 2, 3, 4] rfl ?_
    exact hJ52  _ _ _ _ _ _ h
  · have h := h.2 c10
    refine r_iconst (pc := 47) (v := 5) C dX9_plainFavour_47 (by decide) ?_
    refine r_goto (pc := 48) (tgt := 52) C dX9_plainFavour_48 (by decide) ?_
    refine r_sub (lv2 := [(0, .ref (ad X 85)), (1, .int x1), (2, .int x2), (3, .int x3)]) [1, 2, 3, 4] rfl ?_
    exact hJ52  _ _ _ _ _ _ h
theorem yd_X9_favourOf : yX9_favourOf.cls ≠ "java/lang/invoke/MethodHandle" ∧ yX9_favourOf.cls ≠ "java/lang/invoke/VarHandle" ∧ (parseMethodDescriptor yX9_favourOf.desc).map (fun d => d.parameters.length) = some 3 := by decide +kernel
def w_X9_favourOf  (M : Mem) (x1 : Int32) (x2 : Int32) (x3 : Int32) (Q : Int32 → Mem → Prop) : Prop :=
  w_X9_plainFavour  M x1 x2 x3 (fun r2 M1 => ((0 ≤ r2) → (Q r2 M1)) ∧ ((¬ 0 ≤ r2) → (∀ v4 : Int32, v4 = ((x1 + 18) + x2) → (vp_in v4 3528 ∧ (((¬ (M1 86 (Int32.toNatClampNeg v4)) = 5) → (Q r2 M1)) ∧ (((M1 86 (Int32.toNatClampNeg v4)) = 5) → (Q 0 M1)))))))
abbrev rm_X9_favourOf : Room := { frames := 9, cells := 0, slots := 0, locals := 180 }
set_option maxHeartbeats 4000000 in
set_option maxRecDepth 100000 in
theorem c_X9_favourOf (X : Cx)  (M : Mem) (x1 : Int32) (x2 : Int32) (x3 : Int32) (Q : Int32 → Mem → Prop) (h : w_X9_favourOf  M x1 x2 x3 Q) : Ct yX9_favourOf cX9_favourOf 5 (some .int) rm_X9_favourOf X M [.ref (ad X 85), .int x1, .int x2, .int x3] (Qi X Q) := by
  refine ct_of (own := RX9) (lv := [(0, .ref (ad X 85)), (1, .int x1), (2, .int x2), (3, .int x3)]) rfl (by decide) (Nat.le_of_ble_eq_true rfl) rfl ?_
  intro K C
  unfold w_X9_favourOf at h
  refine r_aload_n (pc := 0) C 0 dX9_favourOf_0 rfl ?_
  refine r_iload_n (pc := 1) C 1 dX9_favourOf_1 rfl ?_
  refine r_iload_n (pc := 2) C 2 dX9_favourOf_2 rfl ?_
  refine r_iload_n (pc := 3) C 3 dX9_favourOf_3 rfl ?_
  have hM := c_X9_plainFavour X  M x1 x2 x3 _ h
  refine q_s0 (s1 := List.reverse [.int x1, .int x2, .int x3] ++ .ref (ad X 85) :: []) rfl ?_
  refine r_callVi (pc := 4) (k := 85) (As := [.int x1, .int x2, .int x3]) (st := []) C 3 (by decide) (ce85 _) rfl aw521 aw522 hM aw520 aw523 aw5 yd_X9_plainFavour ⟨rfl, rfl⟩ ⟨Nat.le_of_ble_eq_true rfl, Nat.le_of_ble_eq_true rfl⟩ rfl (Nat.le_of_ble_eq_true rfl) dX9_favourOf_4 (fun r2 M1 h => ?_)
  refine r_istore (pc := 7) (lv2 := [(4, .int r2), (0, .ref (ad X 85)), (1, .int x1), (2, .int x2), (3, .int x3)]) C dX9_favourOf_7 (by decide) rfl ?_
  refine r_iload (pc := 9) C 0 dX9_favourOf_9 rfl ?_
  refine r_if_ge (pc := 11) (tgt := 33) C dX9_favourOf_11 (by decide) (fun c3 => ?_) (fun c3 => ?_)
  · have h := h.1 c3
    refine r_iload (pc := 33) C 0 dX9_favourOf_33 rfl ?_
    exact r_iret (pc := 35) C dX9_favourOf_35 h
  · have h := h.2 c3
    refine r_aload_n (pc := 14) C 1 dX9_favourOf_14 rfl ?_
    refine r_get (pc := 15) (k := 85) (j := 0) (Cn := RX9) (T := TX9) (N := 21) C (by decide) (ce85 _) rfl iaX9 (by decide) aw103 rfl rfl dX9_favourOf_15 ?_
    refine r_iload_n (pc := 18) C 2 dX9_favourOf_18 rfl ?_
    refine r_bipush (pc := 19) (v := 18) C dX9_favourOf_19 (by decide) ?_
    refine r_iadd (pc := 21) C dX9_favourOf_21 ?_
    refine r_iload_n (pc := 22) C 3 dX9_favourOf_22 rfl ?_
    refine r_iadd (pc := 23) C dX9_favourOf_23 ?_
    refine r_topi (fun v4 ev4 => ?_)
    replace h := h v4 ev4
    obtain ⟨g5, h⟩ := h
    refine q_iald (pc := 24) (k := 86) (n := 3528) (j := (Int32.toNatClampNeg v4)) C (by decide) (ce86 _) g5 rfl dX9_favourOf_24 ?_
    refine r_iconst (pc := 25) (v := 5) C dX9_favourOf_25 (by decide) ?_
    refine r_icmp_ne (pc := 26) (tgt := 33) C dX9_favourOf_26 (by decide) (fun c6 => ?_) (fun c6 => ?_)
    · have h := h.1 c6
      refine r_iload (pc := 33) C 0 dX9_favourOf_33 rfl ?_
      exact r_iret (pc := 35) C dX9_favourOf_35 h
    · have h := h.2 c6
      refine r_iconst (pc := 29) (v := 0) C dX9_favourOf_29 (by decide) ?_
      refine r_goto (pc := 30) (tgt := 35) C dX9_favourOf_30 (by decide) ?_
      exact r_iret (pc := 35) C dX9_favourOf_35 h
theorem yd_X9_weights : yX9_weights.cls ≠ "java/lang/invoke/MethodHandle" ∧ yX9_weights.cls ≠ "java/lang/invoke/VarHandle" ∧ (parseMethodDescriptor yX9_weights.desc).map (fun d => d.parameters.length) = some 4 := by decide +kernel
def wJ_X9_weights_77  (Q : Int32 → Mem → Prop) (R6 : Mem → Int32 → Int32 → Int32 → Int32 → Int32 → Int32 → Prop) (M : Mem) (x1 : Int32) (x2 : Int32) (x3 : Int32) (x4 : Int32) (x5 : Int32) (x6 : Int32) (s0 : Int32) : Prop :=
  ((s0 = 0) → (∀ v2 : Int32, v2 = (x5 + 0) → (∀ v3 : Int32, v3 = x6 + 1 → (R6 M x1 x2 x3 x4 v2 v3)))) ∧ ((¬ s0 = 0) → (w_X9_weightOf  M x1 x6 x3 (fun r5 M4 => ∀ v6 : Int32, v6 = (x5 + r5) → (∀ v7 : Int32, v7 = x6 + 1 → (R6 M4 x1 x2 x3 x4 v6 v7)))))
def wJ_X9_weights_76  (Q : Int32 → Mem → Prop) (R6 : Mem → Int32 → Int32 → Int32 → Int32 → Int32 → Int32 → Prop) (M : Mem) (x1 : Int32) (x2 : Int32) (x3 : Int32) (x4 : Int32) (x5 : Int32) (x6 : Int32) : Prop :=
  wJ_X9_weights_77  Q R6 M x1 x2 x3 x4 x5 x6 0
def wJ_X9_weights_72  (Q : Int32 → Mem → Prop) (R6 : Mem → Int32 → Int32 → Int32 → Int32 → Int32 → Int32 → Prop) (M : Mem) (x1 : Int32) (x2 : Int32) (x3 : Int32) (x4 : Int32) (x5 : Int32) (x6 : Int32) : Prop :=
  wJ_X9_weights_77  Q R6 M x1 x2 x3 x4 x5 x6 1
def wJ_X9_weights_62  (Q : Int32 → Mem → Prop) (R6 : Mem → Int32 → Int32 → Int32 → Int32 → Int32 → Int32 → Prop) (M : Mem) (x1 : Int32) (x2 : Int32) (x3 : Int32) (x4 : Int32) (x5 : Int32) (x6 : Int32) (x7 : Int32) : Prop :=
  ((0 ≤ x4) → (wJ_X9_weights_76  Q R6 M x1 x2 x3 x4 x5 x6)) ∧ ((¬ 0 ≤ x4) → (((0 ≤ x7) → (wJ_X9_weights_76  Q R6 M x1 x2 x3 x4 x5 x6)) ∧ ((¬ 0 ≤ x7) → (wJ_X9_weights_72  Q R6 M x1 x2 x3 x4 x5 x6))))
def wB_X9_weights_6  (Q : Int32 → Mem → Prop)  (R6 : Mem → Int32 → Int32 → Int32 → Int32 → Int32 → Int32 → Prop) (M : Mem) (x1 : Int32) (x2 : Int32) (x3 : Int32) (x4 : Int32) (x5 : Int32) (x6 : Int32) : Prop :=
  ∀ v1 : Int32, v1 = (x1 + 3) → (vp_in v1 3528 ∧ ((((M 86 (Int32.toNatClampNeg v1)) ≤ x6) → (Q x5 M)) ∧ ((¬ (M 86 (Int32.toNatClampNeg v1)) ≤ x6) → (((x6 = x2) → (∀ v5 : Int32, v5 = x6 + 1 → (R6 M x1 x2 x3 x4 x5 v5))) ∧ ((¬ x6 = x2) → (w_X9_has  M (M 85 15) x6 (fun r7 M6 => ((¬ r7 = 0) → (∀ v9 : Int32, v9 = x6 + 1 → (R6 M6 x1 x2 x3 x4 x5 v9))) ∧ ((r7 = 0) → (w_X9_favourOf  M6 x1 x6 x2 (fun r11 M10 => ((x4 = 0) → (wJ_X9_weights_72  Q R6 M10 x1 x2 x3 x4 x5 x6)) ∧ ((¬ x4 = 0) → (((x4 ≤ 0) → (wJ_X9_weights_62  Q R6 M10 x1 x2 x3 x4 x5 x6 r11)) ∧ ((¬ x4 ≤ 0) → (((0 < r11) → (wJ_X9_weights_72  Q R6 M10 x1 x2 x3 x4 x5 x6)) ∧ ((¬ 0 < r11) → (wJ_X9_weights_62  Q R6 M10 x1 x2 x3 x4 x5 x6 r11))))))))))))))))
def wL_X9_weights_6  (Q : Int32 → Mem → Prop)  : Nat → Mem → Int32 → Int32 → Int32 → Int32 → Int32 → Int32 → Prop
  | 0 => fun _ _ _ _ _ _ _ => False
  | n + 1 => fun M x1 x2 x3 x4 x5 x6 => wB_X9_weights_6  Q  (wL_X9_weights_6  Q  n) M x1 x2 x3 x4 x5 x6
theorem wL_X9_weights_6_s  {Q : Int32 → Mem → Prop}  {n : Nat} {M : Mem} {x1 : Int32} {x2 : Int32} {x3 : Int32} {x4 : Int32} {x5 : Int32} {x6 : Int32} (h : wL_X9_weights_6  Q  (n + 1) M x1 x2 x3 x4 x5 x6) : wB_X9_weights_6  Q  (wL_X9_weights_6  Q  n) M x1 x2 x3 x4 x5 x6 := h
def w_X9_weights  (M : Mem) (x1 : Int32) (x2 : Int32) (x3 : Int32) (x4 : Int32) (Q : Int32 → Mem → Prop) : Prop :=
  ∃ n1 : Nat, wL_X9_weights_6  Q  n1 M x1 x2 x3 x4 0 0
abbrev rm_X9_weights : Room := { frames := 12, cells := 0, slots := 0, locals := 240 }
set_option maxHeartbeats 4000000 in
set_option maxRecDepth 100000 in
theorem c_X9_weights (X : Cx)  (M : Mem) (x1 : Int32) (x2 : Int32) (x3 : Int32) (x4 : Int32) (Q : Int32 → Mem → Prop) (h : w_X9_weights  M x1 x2 x3 x4 Q) : Ct yX9_weights cX9_weights 9 (some .int) rm_X9_weights X M [.ref (ad X 85), .int x1, .int x2, .int x3, .int x4] (Qi X Q) := by
  refine ct_of (own := RX9) (lv := [(0, .ref (ad X 85)), (1, .int x1), (2, .int x2), (3, .int x3), (4, .int x4)]) rfl (by decide) (Nat.le_of_ble_eq_true rfl) rfl ?_
  intro K C
  have hJ77 : ∀ (R6 : Mem → Int32 → Int32 → Int32 → Int32 → Int32 → Int32 → Prop) (hR6 : ∀ (M : Mem) (x1 : Int32) (x2 : Int32) (x3 : Int32) (x4 : Int32) (x5 : Int32) (x6 : Int32), R6 M x1 x2 x3 x4 x5 x6 → WX K X 9 (Qi X Q) M 6 [(0, .ref (ad X 85)), (1, .int x1), (2, .int x2), (3, .int x3), (4, .int x4), (5, .int x5), (6, .int x6)] []) (M : Mem) (x1 : Int32) (x2 : Int32) (x3 : Int32) (x4 : Int32) (x5 : Int32) (x6 : Int32) (s0 : Int32), wJ_X9_weights_77  Q R6 M x1 x2 x3 x4 x5 x6 s0 → WX K X 9 (Qi X Q) M 77 [(0, .ref (ad X 85)), (1, .int x1), (2, .int x2), (3, .int x3), (4, .int x4), (5, .int x5), (6, .int x6)] [.int s0] := by
    intro R6 hR6 M x1 x2 x3 x4 x5 x6 s0 h
    unfold wJ_X9_weights_77 at h
    refine r_istore (pc := 77) (lv2 := [(8, .int s0), (0, .ref (ad X 85)), (1, .int x1), (2, .int x2), (3, .int x3), (4, .int x4), (5, .int x5), (6, .int x6)]) C dX9_weights_77 (by decide) rfl ?_
    refine r_iload (pc := 79) C 6 dX9_weights_79 rfl ?_
    refine r_iload (pc := 81) C 0 dX9_weights_81 rfl ?_
    refine r_if_eq (pc := 83) (tgt := 97) C dX9_weights_83 (by decide) (fun c1 => ?_) (fun c1 => ?_)
    · have h := h.1 c1
      refine r_iconst (pc := 97) (v := 0) C dX9_weights_97 (by decide) ?_
      refine r_iadd (pc := 98) C dX9_weights_98 ?_
      refine r_topi (fun v2 ev2 => ?_)
      replace h := h v2 ev2
      refine r_istore (pc := 99) (lv2 := [(5, .int v2), (8, .int s0), (0, .ref (ad X 85)), (1, .int x1), (2, .int x2), (3, .int x3), (4, .int x4), (6, .int x6)]) C dX9_weights_99 (by decide) rfl ?_
      obtain ⟨v3, ev3⟩ : ∃ z : Int32, z = x6 + 1 := ⟨_, rfl⟩
      replace h := h v3 ev3
      refine r_iinc (pc := 101) (v := v3) (lv2 := [(6, .int v3), (5, .int v2), (8, .int s0), (0, .ref (ad X 85)), (1, .int x1), (2, .int x2), (3, .int x3), (4, .int x4)]) C 7 dX9_weights_101 rfl (by rw [ev3]; rfl) (by decide) rfl ?_
      refine r_goto (pc := 104) (tgt := 6) C dX9_weights_104 (by decide) ?_
      refine r_sub (lv2 := [(0, .ref (ad X 85)), (1, .int x1), (2, .int x2), (3, .int x3), (4, .int x4), (5, .int v2), (6, .int v3)]) [3, 4, 5, 6, 7, 1, 0] rfl ?_
      exact hR6 _ _ _ _ _ _ _ h
    · have h := h.2 c1
      refine r_aload_n (pc := 86) C 1 dX9_weights_86 rfl ?_
      refine r_iload_n (pc := 87) C 2 dX9_weights_87 rfl ?_
      refine r_iload (pc := 88) C 7 dX9_weights_88 rfl ?_
      refine r_iload_n (pc := 90) C 4 dX9_weights_90 rfl ?_
      have hM := c_X9_weightOf X  M x1 x6 x3 _ h
      refine q_s0 (s1 := List.reverse [.int x1, .int x6, .int x3] ++ .ref (ad X 85) :: [.int x5]) rfl ?_
      refine r_callVi (pc := 91) (k := 85) (As := [.int x1, .int x6, .int x3]) (st := [.int x5]) C 3 (by decide) (ce85 _) rfl aw525 aw526 hM aw524 aw527 aw5 yd_X9_weightOf ⟨rfl, rfl⟩ ⟨Nat.le_of_ble_eq_true rfl, Nat.le_of_ble_eq_true rfl⟩ rfl (Nat.le_of_ble_eq_true rfl) dX9_weights_91 (fun r5 M4 h => ?_)
      refine r_goto (pc := 94) (tgt := 98) C dX9_weights_94 (by decide) ?_
      refine r_iadd (pc := 98) C dX9_weights_98 ?_
      refine r_topi (fun v6 ev6 => ?_)
      replace h := h v6 ev6
      refine r_istore (pc := 99) (lv2 := [(5, .int v6), (8, .int s0), (0, .ref (ad X 85)), (1, .int x1), (2, .int x2), (3, .int x3), (4, .int x4), (6, .int x6)]) C dX9_weights_99 (by decide) rfl ?_
      obtain ⟨v7, ev7⟩ : ∃ z : Int32, z = x6 + 1 := ⟨_, rfl⟩
      replace h := h v7 ev7
      refine r_iinc (pc := 101) (v := v7) (lv2 := [(6, .int v7), (5, .int v6), (8, .int s0), (0, .ref (ad X 85)), (1, .int x1), (2, .int x2), (3, .int x3), (4, .int x4)]) C 7 dX9_weights_101 rfl (by rw [ev7]; rfl) (by decide) rfl ?_
      refine r_goto (pc := 104) (tgt := 6) C dX9_weights_104 (by decide) ?_
      refine r_sub (lv2 := [(0, .ref (ad X 85)), (1, .int x1), (2, .int x2), (3, .int x3), (4, .int x4), (5, .int v6), (6, .int v7)]) [3, 4, 5, 6, 7, 1, 0] rfl ?_
      exact hR6 _ _ _ _ _ _ _ h
  have hJ76 : ∀ (R6 : Mem → Int32 → Int32 → Int32 → Int32 → Int32 → Int32 → Prop) (hR6 : ∀ (M : Mem) (x1 : Int32) (x2 : Int32) (x3 : Int32) (x4 : Int32) (x5 : Int32) (x6 : Int32), R6 M x1 x2 x3 x4 x5 x6 → WX K X 9 (Qi X Q) M 6 [(0, .ref (ad X 85)), (1, .int x1), (2, .int x2), (3, .int x3), (4, .int x4), (5, .int x5), (6, .int x6)] []) (M : Mem) (x1 : Int32) (x2 : Int32) (x3 : Int32) (x4 : Int32) (x5 : Int32) (x6 : Int32), wJ_X9_weights_76  Q R6 M x1 x2 x3 x4 x5 x6 → WX K X 9 (Qi X Q) M 76 [(0, .ref (ad X 85)), (1, .int x1), (2, .int x2), (3, .int x3), (4, .int x4), (5, .int x5), (6, .int x6)] [] := by
    intro R6 hR6 M x1 x2 x3 x4 x5 x6 h
    unfold wJ_X9_weights_76 at h
    refine r_iconst (pc := 76) (v := 0) C dX9_weights_76 (by decide) ?_
    refine r_sub (lv2 := [(0, .ref (ad X 85)), (1, .int x1), (2, .int x2), (3, .int x3), (4, .int x4), (5, .int x5), (6, .int x6)]) [0, 1, 2, 3, 4, 5, 6] rfl ?_
    exact hJ77 _ hR6 _ _ _ _ _ _ _ _ h
  have hJ72 : ∀ (R6 : Mem → Int32 → Int32 → Int32 → Int32 → Int32 → Int32 → Prop) (hR6 : ∀ (M : Mem) (x1 : Int32) (x2 : Int32) (x3 : Int32) (x4 : Int32) (x5 : Int32) (x6 : Int32), R6 M x1 x2 x3 x4 x5 x6 → WX K X 9 (Qi X Q) M 6 [(0, .ref (ad X 85)), (1, .int x1), (2, .int x2), (3, .int x3), (4, .int x4), (5, .int x5), (6, .int x6)] []) (M : Mem) (x1 : Int32) (x2 : Int32) (x3 : Int32) (x4 : Int32) (x5 : Int32) (x6 : Int32), wJ_X9_weights_72  Q R6 M x1 x2 x3 x4 x5 x6 → WX K X 9 (Qi X Q) M 72 [(0, .ref (ad X 85)), (1, .int x1), (2, .int x2), (3, .int x3), (4, .int x4), (5, .int x5), (6, .int x6)] [] := by
    intro R6 hR6 M x1 x2 x3 x4 x5 x6 h
    unfold wJ_X9_weights_72 at h
    refine r_iconst (pc := 72) (v := 1) C dX9_weights_72 (by decide) ?_
    refine r_goto (pc := 73) (tgt := 77) C dX9_weights_73 (by decide) ?_
    refine r_sub (lv2 := [(0, .ref (ad X 85)), (1, .int x1), (2, .int x2), (3, .int x3), (4, .int x4), (5, .int x5), (6, .int x6)]) [0, 1, 2, 3, 4, 5, 6] rfl ?_
    exact hJ77 _ hR6 _ _ _ _ _ _ _ _ h
  have hJ62 : ∀ (R6 : Mem → Int32 → Int32 → Int32 → Int32 → Int32 → Int32 → Prop) (hR6 : ∀ (M : Mem) (x1 : Int32) (x2 : Int32) (x3 : Int32) (x4 : Int32) (x5 : Int32) (x6 : Int32), R6 M x1 x2 x3 x4 x5 x6 → WX K X 9 (Qi X Q) M 6 [(0, .ref (ad X 85)), (1, .int x1), (2, .int x2), (3, .int x3), (4, .int x4), (5, .int x5), (6, .int x6)] []) (M : Mem) (x1 : Int32) (x2 : Int32) (x3 : Int32) (x4 : Int32) (x5 : Int32) (x6 : Int32) (x7 : Int32), wJ_X9_weights_62  Q R6 M x1 x2 x3 x4 x5 x6 x7 → WX K X 9 (Qi X Q) M 62 [(0, .ref (ad X 85)), (1, .int x1), (2, .int x2), (3, .int x3), (4, .int x4), (5, .int x5), (6, .int x6), (7, .int x7)] [] := by
    intro R6 hR6 M x1 x2 x3 x4 x5 x6 x7 h
    unfold wJ_X9_weights_62 at h
    refine r_iload (pc := 62) C 4 dX9_weights_62 rfl ?_
    refine r_if_ge (pc := 64) (tgt := 76) C dX9_weights_64 (by decide) (fun c1 => ?_) (fun c1 => ?_)
    · have h := h.1 c1
      refine r_sub (lv2 := [(0, .ref (ad X 85)), (1, .int x1), (2, .int x2), (3, .int x3), (4, .int x4), (5, .int x5), (6, .int x6)]) [0, 1, 2, 3, 4, 5, 6] rfl ?_
      exact hJ76 _ hR6 _ _ _ _ _ _ _ h
    · have h := h.2 c1
      refine r_iload (pc := 67) C 7 dX9_weights_67 rfl ?_
      refine r_if_ge (pc := 69) (tgt := 76) C dX9_weights_69 (by decide) (fun c2 => ?_) (fun c2 => ?_)
      · have h := h.1 c2
        refine r_sub (lv2 := [(0, .ref (ad X 85)), (1, .int x1), (2, .int x2), (3, .int x3), (4, .int x4), (5, .int x5), (6, .int x6)]) [0, 1, 2, 3, 4, 5, 6] rfl ?_
        exact hJ76 _ hR6 _ _ _ _ _ _ _ h
      · have h := h.2 c2
        refine r_sub (lv2 := [(0, .ref (ad X 85)), (1, .int x1), (2, .int x2), (3, .int x3), (4, .int x4), (5, .int x5), (6, .int x6)]) [0, 1, 2, 3, 4, 5, 6] rfl ?_
        exact hJ72 _ hR6 _ _ _ _ _ _ _ h
  have hL6 : ∀  (n : Nat) (M : Mem) (x1 : Int32) (x2 : Int32) (x3 : Int32) (x4 : Int32) (x5 : Int32) (x6 : Int32), wL_X9_weights_6  Q  n M x1 x2 x3 x4 x5 x6 → WX K X 9 (Qi X Q) M 6 [(0, .ref (ad X 85)), (1, .int x1), (2, .int x2), (3, .int x3), (4, .int x4), (5, .int x5), (6, .int x6)] [] := by
    intro  n
    induction n with
    | zero => intro M x1 x2 x3 x4 x5 x6 h; exact absurd h id
    | succ n ih =>
      intro M x1 x2 x3 x4 x5 x6 h
      replace h := wL_X9_weights_6_s h
      unfold wB_X9_weights_6 at h
      refine r_iload (pc := 6) C 6 dX9_weights_6 rfl ?_
      refine r_aload_n (pc := 8) C 0 dX9_weights_8 rfl ?_
      refine r_get (pc := 9) (k := 85) (j := 0) (Cn := RX9) (T := TX9) (N := 21) C (by decide) (ce85 _) rfl iaX9 (by decide) aw103 rfl rfl dX9_weights_9 ?_
      refine r_iload_n (pc := 12) C 1 dX9_weights_12 rfl ?_
      refine r_iconst (pc := 13) (v := 3) C dX9_weights_13 (by decide) ?_
      refine r_iadd (pc := 14) C dX9_weights_14 ?_
      refine r_topi (fun v1 ev1 => ?_)
      replace h := h v1 ev1
      obtain ⟨g2, h⟩ := h
      refine q_iald (pc := 15) (k := 86) (n := 3528) (j := (Int32.toNatClampNeg v1)) C (by decide) (ce86 _) g2 rfl dX9_weights_15 ?_
      refine r_icmp_ge (pc := 16) (tgt := 107) C dX9_weights_16 (by decide) (fun c3 => ?_) (fun c3 => ?_)
      · have h := h.1 c3
        refine r_iload (pc := 107) C 5 dX9_weights_107 rfl ?_
        exact r_iret (pc := 109) C dX9_weights_109 h
      · have h := h.2 c3
        refine r_iload (pc := 19) C 6 dX9_weights_19 rfl ?_
        refine r_iload_n (pc := 21) C 2 dX9_weights_21 rfl ?_
        refine r_icmp_eq (pc := 22) (tgt := 101) C dX9_weights_22 (by decide) (fun c4 => ?_) (fun c4 => ?_)
        · have h := h.1 c4
          obtain ⟨v5, ev5⟩ : ∃ z : Int32, z = x6 + 1 := ⟨_, rfl⟩
          replace h := h v5 ev5
          refine r_iinc (pc := 101) (v := v5) (lv2 := [(6, .int v5), (0, .ref (ad X 85)), (1, .int x1), (2, .int x2), (3, .int x3), (4, .int x4), (5, .int x5)]) C 6 dX9_weights_101 rfl (by rw [ev5]; rfl) (by decide) rfl ?_
          refine r_goto (pc := 104) (tgt := 6) C dX9_weights_104 (by decide) ?_
          refine r_sub (lv2 := [(0, .ref (ad X 85)), (1, .int x1), (2, .int x2), (3, .int x3), (4, .int x4), (5, .int x5), (6, .int v5)]) [1, 2, 3, 4, 5, 6, 0] rfl ?_
          exact ih _ _ _ _ _ _ _ h
        · have h := h.2 c4
          refine r_aload_n (pc := 25) C 0 dX9_weights_25 rfl ?_
          refine r_get (pc := 26) (k := 85) (j := 15) (Cn := RX9) (T := TX9) (N := 21) C (by decide) (ce85 _) rfl iaX9 (by decide) aw515 rfl rfl dX9_weights_26 ?_
          refine r_iload (pc := 29) C 6 dX9_weights_29 rfl ?_
          have hM := c_X9_has X  M (M 85 15) x6 _ h
          refine q_s0 (s1 := List.reverse [.int (M 85 15), .int x6] ++ []) rfl ?_
          refine r_callSi (pc := 31) (As := [.int (M 85 15), .int x6]) (st := []) C 2 hM aw373 aw374 aw375 aw5 yd_X9_has ⟨rfl, rfl⟩ ⟨Nat.le_of_ble_eq_true rfl, Nat.le_of_ble_eq_true rfl⟩ rfl (Nat.le_of_ble_eq_true rfl) dX9_weights_31 (fun r7 M6 h => ?_)
          refine r_if_ne (pc := 34) (tgt := 101) C dX9_weights_34 (by decide) (fun c8 => ?_) (fun c8 => ?_)
          · have h := h.1 c8
            obtain ⟨v9, ev9⟩ : ∃ z : Int32, z = x6 + 1 := ⟨_, rfl⟩
            replace h := h v9 ev9
            refine r_iinc (pc := 101) (v := v9) (lv2 := [(6, .int v9), (0, .ref (ad X 85)), (1, .int x1), (2, .int x2), (3, .int x3), (4, .int x4), (5, .int x5)]) C 6 dX9_weights_101 rfl (by rw [ev9]; rfl) (by decide) rfl ?_
            refine r_goto (pc := 104) (tgt := 6) C dX9_weights_104 (by decide) ?_
            refine r_sub (lv2 := [(0, .ref (ad X 85)), (1, .int x1), (2, .int x2), (3, .int x3), (4, .int x4), (5, .int x5), (6, .int v9)]) [1, 2, 3, 4, 5, 6, 0] rfl ?_
            exact ih _ _ _ _ _ _ _ h
          · have h := h.2 c8
            refine r_aload_n (pc := 37) C 0 dX9_weights_37 rfl ?_
            refine r_iload_n (pc := 38) C 1 dX9_weights_38 rfl ?_
            refine r_iload (pc := 39) C 6 dX9_weights_39 rfl ?_
            refine r_iload_n (pc := 41) C 2 dX9_weights_41 rfl ?_
            have hM := c_X9_favourOf X  M6 x1 x6 x2 _ h
            refine q_s0 (s1 := List.reverse [.int x1, .int x6, .int x2] ++ .ref (ad X 85) :: []) rfl ?_
            refine r_callVi (pc := 42) (k := 85) (As := [.int x1, .int x6, .int x2]) (st := []) C 3 (by decide) (ce85 _) rfl aw517 aw518 hM aw516 aw519 aw5 yd_X9_favourOf ⟨rfl, rfl⟩ ⟨Nat.le_of_ble_eq_true rfl, Nat.le_of_ble_eq_true rfl⟩ rfl (Nat.le_of_ble_eq_true rfl) dX9_weights_42 (fun r11 M10 h => ?_)
            refine r_istore (pc := 45) (lv2 := [(7, .int r11), (0, .ref (ad X 85)), (1, .int x1), (2, .int x2), (3, .int x3), (4, .int x4), (5, .int x5), (6, .int x6)]) C dX9_weights_45 (by decide) rfl ?_
            refine r_iload (pc := 47) C 5 dX9_weights_47 rfl ?_
            refine r_if_eq (pc := 49) (tgt := 72) C dX9_weights_49 (by decide) (fun c12 => ?_) (fun c12 => ?_)
            · have h := h.1 c12
              refine r_sub (lv2 := [(0, .ref (ad X 85)), (1, .int x1), (2, .int x2), (3, .int x3), (4, .int x4), (5, .int x5), (6, .int x6)]) [1, 2, 3, 4, 5, 6, 7] rfl ?_
              exact hJ72 _ ih _ _ _ _ _ _ _ h
            · have h := h.2 c12
              refine r_iload (pc := 52) C 5 dX9_weights_52 rfl ?_
              refine r_if_le (pc := 54) (tgt := 62) C dX9_weights_54 (by decide) (fun c13 => ?_) (fun c13 => ?_)
              · have h := h.1 c13
                refine r_sub (lv2 := [(0, .ref (ad X 85)), (1, .int x1), (2, .int x2), (3, .int x3), (4, .int x4), (5, .int x5), (6, .int x6), (7, .int r11)]) [1, 2, 3, 4, 5, 6, 7, 0] rfl ?_
                exact hJ62 _ ih _ _ _ _ _ _ _ _ h
              · have h := h.2 c13
                refine r_iload (pc := 57) C 0 dX9_weights_57 rfl ?_
                refine r_if_gt (pc := 59) (tgt := 72) C dX9_weights_59 (by decide) (fun c14 => ?_) (fun c14 => ?_)
                · have h := h.1 c14
                  refine r_sub (lv2 := [(0, .ref (ad X 85)), (1, .int x1), (2, .int x2), (3, .int x3), (4, .int x4), (5, .int x5), (6, .int x6)]) [1, 2, 3, 4, 5, 6, 7] rfl ?_
                  exact hJ72 _ ih _ _ _ _ _ _ _ h
                · have h := h.2 c14
                  refine r_sub (lv2 := [(0, .ref (ad X 85)), (1, .int x1), (2, .int x2), (3, .int x3), (4, .int x4), (5, .int x5), (6, .int x6), (7, .int r11)]) [1, 2, 3, 4, 5, 6, 7, 0] rfl ?_
                  exact hJ62 _ ih _ _ _ _ _ _ _ _ h
  unfold w_X9_weights at h
  refine r_iconst (pc := 0) (v := 0) C dX9_weights_0 (by decide) ?_
  refine r_istore (pc := 1) (lv2 := [(5, .int 0), (0, .ref (ad X 85)), (1, .int x1), (2, .int x2), (3, .int x3), (4, .int x4)]) C dX9_weights_1 (by decide) rfl ?_
  refine r_iconst (pc := 3) (v := 0) C dX9_weights_3 (by decide) ?_
  refine r_istore (pc := 4) (lv2 := [(6, .int 0), (5, .int 0), (0, .ref (ad X 85)), (1, .int x1), (2, .int x2), (3, .int x3), (4, .int x4)]) C dX9_weights_4 (by decide) rfl ?_
  obtain ⟨n1, h⟩ := h
  refine r_sub (lv2 := [(0, .ref (ad X 85)), (1, .int x1), (2, .int x2), (3, .int x3), (4, .int x4), (5, .int 0), (6, .int 0)]) [2, 3, 4, 5, 6, 1, 0] rfl ?_
  exact hL6  _ _ _ _ _ _ _ _ h
theorem yd_X9_opens : yX9_opens.cls ≠ "java/lang/invoke/MethodHandle" ∧ yX9_opens.cls ≠ "java/lang/invoke/VarHandle" ∧ (parseMethodDescriptor yX9_opens.desc).map (fun d => d.parameters.length) = some 3 := by decide +kernel
def w_X9_opens  (M : Mem) (x1 : Int32) (x2 : Int32) (x3 : Int32) (Q : Int32 → Mem → Prop) : Prop :=
  w_X9_weights  M x1 x2 x3 0 (fun r2 M1 => ((r2 = 0) → (Q 1 M1)) ∧ ((¬ r2 = 0) → (w_X9_weights  M1 x1 x2 x3 1 (fun r5 M4 => w_X9_weights  M4 x1 x2 x3 (-1) (fun r7 M6 => ((r5 ≤ r7) → (Q 0 M6)) ∧ ((¬ r5 ≤ r7) → (Q 1 M6)))))))
abbrev rm_X9_opens : Room := { frames := 15, cells := 0, slots := 0, locals := 300 }
set_option maxHeartbeats 4000000 in
set_option maxRecDepth 100000 in
theorem c_X9_opens (X : Cx)  (M : Mem) (x1 : Int32) (x2 : Int32) (x3 : Int32) (Q : Int32 → Mem → Prop) (h : w_X9_opens  M x1 x2 x3 Q) : Ct yX9_opens cX9_opens 4 (some .boolean) rm_X9_opens X M [.ref (ad X 85), .int x1, .int x2, .int x3] (Qi X Q) := by
  refine ct_of (own := RX9) (lv := [(0, .ref (ad X 85)), (1, .int x1), (2, .int x2), (3, .int x3)]) rfl (by decide) (Nat.le_of_ble_eq_true rfl) rfl ?_
  intro K C
  unfold w_X9_opens at h
  refine r_aload_n (pc := 0) C 0 dX9_opens_0 rfl ?_
  refine r_iload_n (pc := 1) C 1 dX9_opens_1 rfl ?_
  refine r_iload_n (pc := 2) C 2 dX9_opens_2 rfl ?_
  refine r_iload_n (pc := 3) C 3 dX9_opens_3 rfl ?_
  refine r_iconst (pc := 4) (v := 0) C dX9_opens_4 (by decide) ?_
  have hM := c_X9_weights X  M x1 x2 x3 0 _ h
  refine q_s0 (s1 := List.reverse [.int x1, .int x2, .int x3, .int 0] ++ .ref (ad X 85) :: []) rfl ?_
  refine r_callVi (pc := 5) (k := 85) (As := [.int x1, .int x2, .int x3, .int 0]) (st := []) C 4 (by decide) (ce85 _) rfl aw512 aw513 hM aw511 aw514 aw5 yd_X9_weights ⟨rfl, rfl⟩ ⟨Nat.le_of_ble_eq_true rfl, Nat.le_of_ble_eq_true rfl⟩ rfl (Nat.le_of_ble_eq_true rfl) dX9_opens_5 (fun r2 M1 h => ?_)
  refine r_if_eq (pc := 8) (tgt := 30) C dX9_opens_8 (by decide) (fun c3 => ?_) (fun c3 => ?_)
  · have h := h.1 c3
    refine r_iconst (pc := 30) (v := 1) C dX9_opens_30 (by decide) ?_
    refine r_goto (pc := 31) (tgt := 35) C dX9_opens_31 (by decide) ?_
    exact r_zret (pc := 35) C dX9_opens_35 (Or.inr rfl) h
  · have h := h.2 c3
    refine r_aload_n (pc := 11) C 0 dX9_opens_11 rfl ?_
    refine r_iload_n (pc := 12) C 1 dX9_opens_12 rfl ?_
    refine r_iload_n (pc := 13) C 2 dX9_opens_13 rfl ?_
    refine r_iload_n (pc := 14) C 3 dX9_opens_14 rfl ?_
    refine r_iconst (pc := 15) (v := 1) C dX9_opens_15 (by decide) ?_
    have hM := c_X9_weights X  M1 x1 x2 x3 1 _ h
    refine q_s0 (s1 := List.reverse [.int x1, .int x2, .int x3, .int 1] ++ .ref (ad X 85) :: []) rfl ?_
    refine r_callVi (pc := 16) (k := 85) (As := [.int x1, .int x2, .int x3, .int 1]) (st := []) C 4 (by decide) (ce85 _) rfl aw512 aw513 hM aw511 aw514 aw5 yd_X9_weights ⟨rfl, rfl⟩ ⟨Nat.le_of_ble_eq_true rfl, Nat.le_of_ble_eq_true rfl⟩ rfl (Nat.le_of_ble_eq_true rfl) dX9_opens_16 (fun r5 M4 h => ?_)
    refine r_aload_n (pc := 19) C 0 dX9_opens_19 rfl ?_
    refine r_iload_n (pc := 20) C 1 dX9_opens_20 rfl ?_
    refine r_iload_n (pc := 21) C 2 dX9_opens_21 rfl ?_
    refine r_iload_n (pc := 22) C 3 dX9_opens_22 rfl ?_
    refine r_iconst (pc := 23) (v := (-1)) C dX9_opens_23 (by decide) ?_
    have hM := c_X9_weights X  M4 x1 x2 x3 (-1) _ h
    refine q_s0 (s1 := List.reverse [.int x1, .int x2, .int x3, .int (-1)] ++ .ref (ad X 85) :: [.int r5]) rfl ?_
    refine r_callVi (pc := 24) (k := 85) (As := [.int x1, .int x2, .int x3, .int (-1)]) (st := [.int r5]) C 4 (by decide) (ce85 _) rfl aw512 aw513 hM aw511 aw514 aw5 yd_X9_weights ⟨rfl, rfl⟩ ⟨Nat.le_of_ble_eq_true rfl, Nat.le_of_ble_eq_true rfl⟩ rfl (Nat.le_of_ble_eq_true rfl) dX9_opens_24 (fun r7 M6 h => ?_)
    refine r_icmp_le (pc := 27) (tgt := 34) C dX9_opens_27 (by decide) (fun c8 => ?_) (fun c8 => ?_)
    · have h := h.1 c8
      refine r_iconst (pc := 34) (v := 0) C dX9_opens_34 (by decide) ?_
      exact r_zret (pc := 35) C dX9_opens_35 (Or.inl rfl) h
    · have h := h.2 c8
      refine r_iconst (pc := 30) (v := 1) C dX9_opens_30 (by decide) ?_
      refine r_goto (pc := 31) (tgt := 35) C dX9_opens_31 (by decide) ?_
      exact r_zret (pc := 35) C dX9_opens_35 (Or.inr rfl) h
theorem yd_X9_endOf : yX9_endOf.cls ≠ "java/lang/invoke/MethodHandle" ∧ yX9_endOf.cls ≠ "java/lang/invoke/VarHandle" ∧ (parseMethodDescriptor yX9_endOf.desc).map (fun d => d.parameters.length) = some 3 := by decide +kernel
def w_X9_endOf  (M : Mem) (x1 : Int32) (x2 : Int32) (x3 : Int32) (Q : Int32 → Mem → Prop) : Prop :=
  ∀ v1 : Int32, v1 = (((x1 + 6) + (2 * x2)) + x3) → (vp_in v1 3528 ∧ (Q (M 86 (Int32.toNatClampNeg v1)) M))
abbrev rm_X9_endOf : Room := { frames := 3, cells := 0, slots := 0, locals := 60 }
set_option maxHeartbeats 4000000 in
set_option maxRecDepth 100000 in
theorem c_X9_endOf (X : Cx)  (M : Mem) (x1 : Int32) (x2 : Int32) (x3 : Int32) (Q : Int32 → Mem → Prop) (h : w_X9_endOf  M x1 x2 x3 Q) : Ct yX9_endOf cX9_endOf 4 (some .int) rm_X9_endOf X M [.ref (ad X 85), .int x1, .int x2, .int x3] (Qi X Q) := by
  refine ct_of (own := RX9) (lv := [(0, .ref (ad X 85)), (1, .int x1), (2, .int x2), (3, .int x3)]) rfl (by decide) (Nat.le_of_ble_eq_true rfl) rfl ?_
  intro K C
  unfold w_X9_endOf at h
  refine r_aload_n (pc := 0) C 0 dX9_endOf_0 rfl ?_
  refine r_get (pc := 1) (k := 85) (j := 0) (Cn := RX9) (T := TX9) (N := 21) C (by decide) (ce85 _) rfl iaX9 (by decide) aw103 rfl rfl dX9_endOf_1 ?_
  refine r_iload_n (pc := 4) C 1 dX9_endOf_4 rfl ?_
  refine r_bipush (pc := 5) (v := 6) C dX9_endOf_5 (by decide) ?_
  refine r_iadd (pc := 7) C dX9_endOf_7 ?_
  refine r_iconst (pc := 8) (v := 2) C dX9_endOf_8 (by decide) ?_
  refine r_iload_n (pc := 9) C 2 dX9_endOf_9 rfl ?_
  refine r_imul (pc := 10) C dX9_endOf_10 ?_
  refine r_iadd (pc := 11) C dX9_endOf_11 ?_
  refine r_iload_n (pc := 12) C 3 dX9_endOf_12 rfl ?_
  refine r_iadd (pc := 13) C dX9_endOf_13 ?_
  refine r_topi (fun v1 ev1 => ?_)
  replace h := h v1 ev1
  obtain ⟨g2, h⟩ := h
  refine q_iald (pc := 14) (k := 86) (n := 3528) (j := (Int32.toNatClampNeg v1)) C (by decide) (ce86 _) g2 rfl dX9_endOf_14 ?_
  exact r_iret (pc := 15) C dX9_endOf_15 h
theorem yd_X9_behind : yX9_behind.cls ≠ "java/lang/invoke/MethodHandle" ∧ yX9_behind.cls ≠ "java/lang/invoke/VarHandle" ∧ (parseMethodDescriptor yX9_behind.desc).map (fun d => d.parameters.length) = some 3 := by decide +kernel
def w_X9_behind  (M : Mem) (x1 : Int32) (x2 : Int32) (x3 : Int32) (Q : Int32 → Mem → Prop) : Prop :=
  w_X9_endOf  M x1 x2 0 (fun r2 M1 => ((¬ r2 = x3) → (w_X9_endOf  M1 x1 x2 1 (fun r5 M4 => ((¬ r5 = x3) → (Q (-1000000) M4)) ∧ ((r5 = x3) → (w_X9_endOf  M4 x1 x2 0 (fun r8 M7 => Q r8 M7)))))) ∧ ((r2 = x3) → (w_X9_endOf  M1 x1 x2 1 (fun r10 M9 => Q r10 M9))))
abbrev rm_X9_behind : Room := { frames := 6, cells := 0, slots := 0, locals := 120 }
set_option maxHeartbeats 4000000 in
set_option maxRecDepth 100000 in
theorem c_X9_behind (X : Cx)  (M : Mem) (x1 : Int32) (x2 : Int32) (x3 : Int32) (Q : Int32 → Mem → Prop) (h : w_X9_behind  M x1 x2 x3 Q) : Ct yX9_behind cX9_behind 4 (some .int) rm_X9_behind X M [.ref (ad X 85), .int x1, .int x2, .int x3] (Qi X Q) := by
  refine ct_of (own := RX9) (lv := [(0, .ref (ad X 85)), (1, .int x1), (2, .int x2), (3, .int x3)]) rfl (by decide) (Nat.le_of_ble_eq_true rfl) rfl ?_
  intro K C
  unfold w_X9_behind at h
  refine r_aload_n (pc := 0) C 0 dX9_behind_0 rfl ?_
  refine r_iload_n (pc := 1) C 1 dX9_behind_1 rfl ?_
  refine r_iload_n (pc := 2) C 2 dX9_behind_2 rfl ?_
  refine r_iconst (pc := 3) (v := 0) C dX9_behind_3 (by decide) ?_
  have hM := c_X9_endOf X  M x1 x2 0 _ h
  refine q_s0 (s1 := List.reverse [.int x1, .int x2, .int 0] ++ .ref (ad X 85) :: []) rfl ?_
  refine r_callVi (pc := 4) (k := 85) (As := [.int x1, .int x2, .int 0]) (st := []) C 3 (by decide) (ce85 _) rfl aw496 aw497 hM aw495 aw498 aw5 yd_X9_endOf ⟨rfl, rfl⟩ ⟨Nat.le_of_ble_eq_true rfl, Nat.le_of_ble_eq_true rfl⟩ rfl (Nat.le_of_ble_eq_true rfl) dX9_behind_4 (fun r2 M1 h => ?_)
  refine r_iload_n (pc := 7) C 3 dX9_behind_7 rfl ?_
  refine r_icmp_ne (pc := 8) (tgt := 21) C dX9_behind_8 (by decide) (fun c3 => ?_) (fun c3 => ?_)
  · have h := h.1 c3
    refine r_aload_n (pc := 21) C 0 dX9_behind_21 rfl ?_
    refine r_iload_n (pc := 22) C 1 dX9_behind_22 rfl ?_
    refine r_iload_n (pc := 23) C 2 dX9_behind_23 rfl ?_
    refine r_iconst (pc := 24) (v := 1) C dX9_behind_24 (by decide) ?_
    have hM := c_X9_endOf X  M1 x1 x2 1 _ h
    refine q_s0 (s1 := List.reverse [.int x1, .int x2, .int 1] ++ .ref (ad X 85) :: []) rfl ?_
    refine r_callVi (pc := 25) (k := 85) (As := [.int x1, .int x2, .int 1]) (st := []) C 3 (by decide) (ce85 _) rfl aw496 aw497 hM aw495 aw498 aw5 yd_X9_endOf ⟨rfl, rfl⟩ ⟨Nat.le_of_ble_eq_true rfl, Nat.le_of_ble_eq_true rfl⟩ rfl (Nat.le_of_ble_eq_true rfl) dX9_behind_25 (fun r5 M4 h => ?_)
    refine r_iload_n (pc := 28) C 3 dX9_behind_28 rfl ?_
    refine r_icmp_ne (pc := 29) (tgt := 42) C dX9_behind_29 (by decide) (fun c6 => ?_) (fun c6 => ?_)
    · have h := h.1 c6
      refine r_ldc (pc := 42) C aw330 dX9_behind_42 ?_
      exact r_iret (pc := 44) C dX9_behind_44 h
    · have h := h.2 c6
      refine r_aload_n (pc := 32) C 0 dX9_behind_32 rfl ?_
      refine r_iload_n (pc := 33) C 1 dX9_behind_33 rfl ?_
      refine r_iload_n (pc := 34) C 2 dX9_behind_34 rfl ?_
      refine r_iconst (pc := 35) (v := 0) C dX9_behind_35 (by decide) ?_
      have hM := c_X9_endOf X  M4 x1 x2 0 _ h
      refine q_s0 (s1 := List.reverse [.int x1, .int x2, .int 0] ++ .ref (ad X 85) :: []) rfl ?_
      refine r_callVi (pc := 36) (k := 85) (As := [.int x1, .int x2, .int 0]) (st := []) C 3 (by decide) (ce85 _) rfl aw496 aw497 hM aw495 aw498 aw5 yd_X9_endOf ⟨rfl, rfl⟩ ⟨Nat.le_of_ble_eq_true rfl, Nat.le_of_ble_eq_true rfl⟩ rfl (Nat.le_of_ble_eq_true rfl) dX9_behind_36 (fun r8 M7 h => ?_)
      refine r_goto (pc := 39) (tgt := 44) C dX9_behind_39 (by decide) ?_
      exact r_iret (pc := 44) C dX9_behind_44 h
  · have h := h.2 c3
    refine r_aload_n (pc := 11) C 0 dX9_behind_11 rfl ?_
    refine r_iload_n (pc := 12) C 1 dX9_behind_12 rfl ?_
    refine r_iload_n (pc := 13) C 2 dX9_behind_13 rfl ?_
    refine r_iconst (pc := 14) (v := 1) C dX9_behind_14 (by decide) ?_
    have hM := c_X9_endOf X  M1 x1 x2 1 _ h
    refine q_s0 (s1 := List.reverse [.int x1, .int x2, .int 1] ++ .ref (ad X 85) :: []) rfl ?_
    refine r_callVi (pc := 15) (k := 85) (As := [.int x1, .int x2, .int 1]) (st := []) C 3 (by decide) (ce85 _) rfl aw496 aw497 hM aw495 aw498 aw5 yd_X9_endOf ⟨rfl, rfl⟩ ⟨Nat.le_of_ble_eq_true rfl, Nat.le_of_ble_eq_true rfl⟩ rfl (Nat.le_of_ble_eq_true rfl) dX9_behind_15 (fun r10 M9 h => ?_)
    refine r_goto (pc := 18) (tgt := 44) C dX9_behind_18 (by decide) ?_
    exact r_iret (pc := 44) C dX9_behind_44 h
theorem yd_X9_goThrough : yX9_goThrough.cls ≠ "java/lang/invoke/MethodHandle" ∧ yX9_goThrough.cls ≠ "java/lang/invoke/VarHandle" ∧ (parseMethodDescriptor yX9_goThrough.desc).map (fun d => d.parameters.length) = some 3 := by decide +kernel
def wJ_X9_goThrough_38  (Q : Mem → Prop)  (M : Mem) (x1 : Int32) (x2 : Int32) (x3 : Int32) (s1 : Int32) (s2 : Int32) (s3 : Int32) : Prop :=
  ∀ v1 : Int32, v1 = (s2 + s3) → (vp_in s1 3528 ∧ (∀ M3 : Mem, M3 = ms M 86 (Int32.toNatClampNeg s1) v1 → (∀ v4 : Int32, v4 = (x1 + 4) → (vp_in v4 3528 ∧ (∀ v6 : Int32, v6 = (M3 86 (Int32.toNatClampNeg v4)) → (vp_in (((x1 + 90) + (6 * x2)) + x3) 3528 ∧ (∀ M8 : Mem, M8 = ms M3 86 (Int32.toNatClampNeg (((x1 + 90) + (6 * x2)) + x3)) v6 → (Q M8))))))))
def w_X9_goThrough  (M : Mem) (x1 : Int32) (x2 : Int32) (x3 : Int32) (Q : Mem → Prop) : Prop :=
  ∀ v1 : Int32, v1 = (((x1 + 54) + (6 * x2)) + x3) → (vp_in v1 3528 ∧ (vp_in v1 3528 ∧ (((99 ≤ (M 86 (Int32.toNatClampNeg v1))) → (wJ_X9_goThrough_38  Q  M x1 x2 x3 v1 (M 86 (Int32.toNatClampNeg v1)) 0)) ∧ ((¬ 99 ≤ (M 86 (Int32.toNatClampNeg v1))) → (wJ_X9_goThrough_38  Q  M x1 x2 x3 v1 (M 86 (Int32.toNatClampNeg v1)) 1)))))
abbrev rm_X9_goThrough : Room := { frames := 3, cells := 0, slots := 0, locals := 60 }
set_option maxHeartbeats 4000000 in
set_option maxRecDepth 100000 in
theorem c_X9_goThrough (X : Cx)  (M : Mem) (x1 : Int32) (x2 : Int32) (x3 : Int32) (Q : Mem → Prop) (h : w_X9_goThrough  M x1 x2 x3 Q) : Ct yX9_goThrough cX9_goThrough 5 none rm_X9_goThrough X M [.ref (ad X 85), .int x1, .int x2, .int x3] (Qv X Q) := by
  refine ct_of (own := RX9) (lv := [(0, .ref (ad X 85)), (1, .int x1), (2, .int x2), (3, .int x3)]) rfl (by decide) (Nat.le_of_ble_eq_true rfl) rfl ?_
  intro K C
  have hJ38 : ∀  (M : Mem) (x1 : Int32) (x2 : Int32) (x3 : Int32) (s1 : Int32) (s2 : Int32) (s3 : Int32), wJ_X9_goThrough_38  Q  M x1 x2 x3 s1 s2 s3 → WX K X 5 (Qv X Q) M 38 [(0, .ref (ad X 85)), (1, .int x1), (2, .int x2), (3, .int x3)] [.int s3, .int s2, .int s1, .ref (ad X 86)] := by
    intro  M x1 x2 x3 s1 s2 s3 h
    unfold wJ_X9_goThrough_38 at h
    refine r_iadd (pc := 38) C dX9_goThrough_38 ?_
    refine r_topi (fun v1 ev1 => ?_)
    replace h := h v1 ev1
    obtain ⟨g2, h⟩ := h
    refine q_iast (pc := 39) (k := 86) (n := 3528) (j := (Int32.toNatClampNeg s1)) C (by decide) (ce86) g2 rfl dX9_goThrough_39 ?_
    refine r_topM (fun M3 eM3 => ?_)
    replace h := h M3 eM3
    refine r_aload_n (pc := 40) C 0 dX9_goThrough_40 rfl ?_
    refine r_get (pc := 41) (k := 85) (j := 0) (Cn := RX9) (T := TX9) (N := 21) C (by decide) (ce85 _) rfl iaX9 (by decide) aw103 rfl rfl dX9_goThrough_41 ?_
    refine r_iload_n (pc := 44) C 1 dX9_goThrough_44 rfl ?_
    refine r_bipush (pc := 45) (v := 90) C dX9_goThrough_45 (by decide) ?_
    refine r_iadd (pc := 47) C dX9_goThrough_47 ?_
    refine r_bipush (pc := 48) (v := 6) C dX9_goThrough_48 (by decide) ?_
    refine r_iload_n (pc := 50) C 2 dX9_goThrough_50 rfl ?_
    refine r_imul (pc := 51) C dX9_goThrough_51 ?_
    refine r_iadd (pc := 52) C dX9_goThrough_52 ?_
    refine r_iload_n (pc := 53) C 3 dX9_goThrough_53 rfl ?_
    refine r_iadd (pc := 54) C dX9_goThrough_54 ?_
    refine r_aload_n (pc := 55) C 0 dX9_goThrough_55 rfl ?_
    refine r_get (pc := 56) (k := 85) (j := 0) (Cn := RX9) (T := TX9) (N := 21) C (by decide) (ce85 _) rfl iaX9 (by decide) aw103 rfl rfl dX9_goThrough_56 ?_
    refine r_iload_n (pc := 59) C 1 dX9_goThrough_59 rfl ?_
    refine r_iconst (pc := 60) (v := 4) C dX9_goThrough_60 (by decide) ?_
    refine r_iadd (pc := 61) C dX9_goThrough_61 ?_
    refine r_topi (fun v4 ev4 => ?_)
    replace h := h v4 ev4
    obtain ⟨g5, h⟩ := h
    refine q_iald (pc := 62) (k := 86) (n := 3528) (j := (Int32.toNatClampNeg v4)) C (by decide) (ce86 _) g5 rfl dX9_goThrough_62 ?_
    refine r_topi (fun v6 ev6 => ?_)
    replace h := h v6 ev6
    obtain ⟨g7, h⟩ := h
    refine q_iast (pc := 63) (k := 86) (n := 3528) (j := (Int32.toNatClampNeg (((x1 + 90) + (6 * x2)) + x3))) C (by decide) (ce86) g7 rfl dX9_goThrough_63 ?_
    refine r_topM (fun M8 eM8 => ?_)
    replace h := h M8 eM8
    exact r_vret (pc := 64) C dX9_goThrough_64 h
  unfold w_X9_goThrough at h
  refine r_iload_n (pc := 0) C 1 dX9_goThrough_0 rfl ?_
  refine r_bipush (pc := 1) (v := 54) C dX9_goThrough_1 (by decide) ?_
  refine r_iadd (pc := 3) C dX9_goThrough_3 ?_
  refine r_bipush (pc := 4) (v := 6) C dX9_goThrough_4 (by decide) ?_
  refine r_iload_n (pc := 6) C 2 dX9_goThrough_6 rfl ?_
  refine r_imul (pc := 7) C dX9_goThrough_7 ?_
  refine r_iadd (pc := 8) C dX9_goThrough_8 ?_
  refine r_iload_n (pc := 9) C 3 dX9_goThrough_9 rfl ?_
  refine r_iadd (pc := 10) C dX9_goThrough_10 ?_
  refine r_topi (fun v1 ev1 => ?_)
  replace h := h v1 ev1
  refine r_istore (pc := 11) (lv2 := [(4, .int v1), (0, .ref (ad X 85)), (1, .int x1), (2, .int x2), (3, .int x3)]) C dX9_goThrough_11 (by decide) rfl ?_
  refine r_aload_n (pc := 13) C 1 dX9_goThrough_13 rfl ?_
  refine r_get (pc := 14) (k := 85) (j := 0) (Cn := RX9) (T := TX9) (N := 21) C (by decide) (ce85 _) rfl iaX9 (by decide) aw103 rfl rfl dX9_goThrough_14 ?_
  refine r_iload (pc := 17) C 0 dX9_goThrough_17 rfl ?_
  refine r_dup2 (pc := 19) C dX9_goThrough_19 rfl rfl ?_
  obtain ⟨g2, h⟩ := h
  refine q_iald (pc := 20) (k := 86) (n := 3528) (j := (Int32.toNatClampNeg v1)) C (by decide) (ce86 _) g2 rfl dX9_goThrough_20 ?_
  refine r_aload_n (pc := 21) C 1 dX9_goThrough_21 rfl ?_
  refine r_get (pc := 22) (k := 85) (j := 0) (Cn := RX9) (T := TX9) (N := 21) C (by decide) (ce85 _) rfl iaX9 (by decide) aw103 rfl rfl dX9_goThrough_22 ?_
  refine r_iload (pc := 25) C 0 dX9_goThrough_25 rfl ?_
  obtain ⟨g3, h⟩ := h
  refine q_iald (pc := 27) (k := 86) (n := 3528) (j := (Int32.toNatClampNeg v1)) C (by decide) (ce86 _) g3 rfl dX9_goThrough_27 ?_
  refine r_bipush (pc := 28) (v := 99) C dX9_goThrough_28 (by decide) ?_
  refine r_icmp_ge (pc := 30) (tgt := 37) C dX9_goThrough_30 (by decide) (fun c4 => ?_) (fun c4 => ?_)
  · have h := h.1 c4
    refine r_iconst (pc := 37) (v := 0) C dX9_goThrough_37 (by decide) ?_
    refine r_sub (lv2 := [(0, .ref (ad X 85)), (1, .int x1), (2, .int x2), (3, .int x3)]) [1, 2, 3, 4] rfl ?_
    exact hJ38  _ _ _ _ _ _ _ h
  · have h := h.2 c4
    refine r_iconst (pc := 33) (v := 1) C dX9_goThrough_33 (by decide) ?_
    refine r_goto (pc := 34) (tgt := 38) C dX9_goThrough_34 (by decide) ?_
    refine r_sub (lv2 := [(0, .ref (ad X 85)), (1, .int x1), (2, .int x2), (3, .int x3)]) [1, 2, 3, 4] rfl ?_
    exact hJ38  _ _ _ _ _ _ _ h
theorem yd_X9_knocks : yX9_knocks.cls ≠ "java/lang/invoke/MethodHandle" ∧ yX9_knocks.cls ≠ "java/lang/invoke/VarHandle" ∧ (parseMethodDescriptor yX9_knocks.desc).map (fun d => d.parameters.length) = some 3 := by decide +kernel
def w_X9_knocks  (M : Mem) (x1 : Int32) (x2 : Int32) (x3 : Int32) (Q : Int32 → Mem → Prop) : Prop :=
  w_X9_opens  M x1 x2 x3 (fun r2 M1 => ((¬ r2 = 0) → (∀ v4 : Int32, v4 = ((x1 + 24) + x2) → (vp_in v4 3528 ∧ (w_X9_behind  M1 x1 x3 (M1 86 (Int32.toNatClampNeg v4)) (fun r7 M6 => vp_in ((x1 + 24) + x2) 3528 ∧ (∀ M9 : Mem, M9 = ms M6 86 (Int32.toNatClampNeg ((x1 + 24) + x2)) r7 → (w_X9_goThrough  M9 x1 x2 x3 (fun M10 => Q 1 M10)))))))) ∧ ((r2 = 0) → (Q 0 M1)))
abbrev rm_X9_knocks : Room := { frames := 18, cells := 0, slots := 0, locals := 360 }
set_option maxHeartbeats 4000000 in
set_option maxRecDepth 100000 in
theorem c_X9_knocks (X : Cx)  (M : Mem) (x1 : Int32) (x2 : Int32) (x3 : Int32) (Q : Int32 → Mem → Prop) (h : w_X9_knocks  M x1 x2 x3 Q) : Ct yX9_knocks cX9_knocks 4 (some .boolean) rm_X9_knocks X M [.ref (ad X 85), .int x1, .int x2, .int x3] (Qi X Q) := by
  refine ct_of (own := RX9) (lv := [(0, .ref (ad X 85)), (1, .int x1), (2, .int x2), (3, .int x3)]) rfl (by decide) (Nat.le_of_ble_eq_true rfl) rfl ?_
  intro K C
  unfold w_X9_knocks at h
  refine r_aload_n (pc := 0) C 0 dX9_knocks_0 rfl ?_
  refine r_iload_n (pc := 1) C 1 dX9_knocks_1 rfl ?_
  refine r_iload_n (pc := 2) C 2 dX9_knocks_2 rfl ?_
  refine r_iload_n (pc := 3) C 3 dX9_knocks_3 rfl ?_
  have hM := c_X9_opens X  M x1 x2 x3 _ h
  refine q_s0 (s1 := List.reverse [.int x1, .int x2, .int x3] ++ .ref (ad X 85) :: []) rfl ?_
  refine r_callVi (pc := 4) (k := 85) (As := [.int x1, .int x2, .int x3]) (st := []) C 3 (by decide) (ce85 _) rfl aw508 aw509 hM aw507 aw510 aw5 yd_X9_opens ⟨rfl, rfl⟩ ⟨Nat.le_of_ble_eq_true rfl, Nat.le_of_ble_eq_true rfl⟩ rfl (Nat.le_of_ble_eq_true rfl) dX9_knocks_4 (fun r2 M1 h => ?_)
  refine r_if_ne (pc := 7) (tgt := 12) C dX9_knocks_7 (by decide) (fun c3 => ?_) (fun c3 => ?_)
  · have h := h.1 c3
    refine r_aload_n (pc := 12) C 0 dX9_knocks_12 rfl ?_
    refine r_get (pc := 13) (k := 85) (j := 0) (Cn := RX9) (T := TX9) (N := 21) C (by decide) (ce85 _) rfl iaX9 (by decide) aw103 rfl rfl dX9_knocks_13 ?_
    refine r_iload_n (pc := 16) C 1 dX9_knocks_16 rfl ?_
    refine r_bipush (pc := 17) (v := 24) C dX9_knocks_17 (by decide) ?_
    refine r_iadd (pc := 19) C dX9_knocks_19 ?_
    refine r_iload_n (pc := 20) C 2 dX9_knocks_20 rfl ?_
    refine r_iadd (pc := 21) C dX9_knocks_21 ?_
    refine r_aload_n (pc := 22) C 0 dX9_knocks_22 rfl ?_
    refine r_iload_n (pc := 23) C 1 dX9_knocks_23 rfl ?_
    refine r_iload_n (pc := 24) C 3 dX9_knocks_24 rfl ?_
    refine r_aload_n (pc := 25) C 0 dX9_knocks_25 rfl ?_
    refine r_get (pc := 26) (k := 85) (j := 0) (Cn := RX9) (T := TX9) (N := 21) C (by decide) (ce85 _) rfl iaX9 (by decide) aw103 rfl rfl dX9_knocks_26 ?_
    refine r_iload_n (pc := 29) C 1 dX9_knocks_29 rfl ?_
    refine r_bipush (pc := 30) (v := 24) C dX9_knocks_30 (by decide) ?_
    refine r_iadd (pc := 32) C dX9_knocks_32 ?_
    refine r_iload_n (pc := 33) C 2 dX9_knocks_33 rfl ?_
    refine r_iadd (pc := 34) C dX9_knocks_34 ?_
    refine r_topi (fun v4 ev4 => ?_)
    replace h := h v4 ev4
    obtain ⟨g5, h⟩ := h
    refine q_iald (pc := 35) (k := 86) (n := 3528) (j := (Int32.toNatClampNeg v4)) C (by decide) (ce86 _) g5 rfl dX9_knocks_35 ?_
    have hM := c_X9_behind X  M1 x1 x3 (M1 86 (Int32.toNatClampNeg v4)) _ h
    refine q_s0 (s1 := List.reverse [.int x1, .int x3, .int (M1 86 (Int32.toNatClampNeg v4))] ++ .ref (ad X 85) :: [.int ((x1 + 24) + x2), .ref (ad X 86)]) rfl ?_
    refine r_callVi (pc := 36) (k := 85) (As := [.int x1, .int x3, .int (M1 86 (Int32.toNatClampNeg v4))]) (st := [.int ((x1 + 24) + x2), .ref (ad X 86)]) C 3 (by decide) (ce85 _) rfl aw492 aw493 hM aw491 aw494 aw5 yd_X9_behind ⟨rfl, rfl⟩ ⟨Nat.le_of_ble_eq_true rfl, Nat.le_of_ble_eq_true rfl⟩ rfl (Nat.le_of_ble_eq_true rfl) dX9_knocks_36 (fun r7 M6 h => ?_)
    obtain ⟨g8, h⟩ := h
    refine q_iast (pc := 39) (k := 86) (n := 3528) (j := (Int32.toNatClampNeg ((x1 + 24) + x2))) C (by decide) (ce86) g8 rfl dX9_knocks_39 ?_
    refine r_topM (fun M9 eM9 => ?_)
    replace h := h M9 eM9
    refine r_aload_n (pc := 40) C 0 dX9_knocks_40 rfl ?_
    refine r_iload_n (pc := 41) C 1 dX9_knocks_41 rfl ?_
    refine r_iload_n (pc := 42) C 2 dX9_knocks_42 rfl ?_
    refine r_iload_n (pc := 43) C 3 dX9_knocks_43 rfl ?_
    have hM := c_X9_goThrough X  M9 x1 x2 x3 _ h
    refine q_s0 (s1 := List.reverse [.int x1, .int x2, .int x3] ++ .ref (ad X 85) :: []) rfl ?_
    refine r_callVv (pc := 44) (k := 85) (As := [.int x1, .int x2, .int x3]) (st := []) C 3 (by decide) (ce85 _) rfl aw537 aw538 hM aw536 aw539 aw5 yd_X9_goThrough ⟨rfl, rfl⟩ ⟨Nat.le_of_ble_eq_true rfl, Nat.le_of_ble_eq_true rfl⟩ rfl (Nat.le_of_ble_eq_true rfl) dX9_knocks_44 (fun M10 h => ?_)
    refine r_iconst (pc := 47) (v := 1) C dX9_knocks_47 (by decide) ?_
    exact r_zret (pc := 48) C dX9_knocks_48 (Or.inr rfl) h
  · have h := h.2 c3
    refine r_iconst (pc := 10) (v := 0) C dX9_knocks_10 (by decide) ?_
    exact r_zret (pc := 11) C dX9_knocks_11 (Or.inl rfl) h
theorem yd_X9_knock : yX9_knock.cls ≠ "java/lang/invoke/MethodHandle" ∧ yX9_knock.cls ≠ "java/lang/invoke/VarHandle" ∧ (parseMethodDescriptor yX9_knock.desc).map (fun d => d.parameters.length) = some 2 := by decide +kernel
def w_X9_knock  (M : Mem) (x1 : Int32) (x2 : Int32) (Q : Int32 → Mem → Prop) : Prop :=
  w_X9_isPerson  M x1 (fun r2 M1 => ((r2 = 0) → (Q (-1000001) M1)) ∧ ((¬ r2 = 0) → (w_X9_isDoor  M1 x2 (fun r5 M4 => ((¬ r5 = 0) → (∀ v7 : Int32, v7 = (24 + x1) → (vp_in v7 3528 ∧ (w_X9_behind  M4 0 x2 (M4 86 (Int32.toNatClampNeg v7)) (fun r10 M9 => ((¬ r10 = (-1000000)) → (w_X9_keepPast  M9  (fun M12 => w_X9_knocks  M12 0 x1 x2 (fun r15 M14 => ((r15 = 0) → (Q 0 M14)) ∧ ((¬ r15 = 0) → (Q 1 M14)))))) ∧ ((r10 = (-1000000)) → (Q (-1000002) M9))))))) ∧ ((r5 = 0) → (Q (-1000001) M4))))))
abbrev rm_X9_knock : Room := { frames := 21, cells := 0, slots := 0, locals := 420 }
set_option maxHeartbeats 4000000 in
set_option maxRecDepth 100000 in
theorem c_X9_knock (X : Cx)  (M : Mem) (x1 : Int32) (x2 : Int32) (Q : Int32 → Mem → Prop) (h : w_X9_knock  M x1 x2 Q) : Ct yX9_knock cX9_knock 3 (some .int) rm_X9_knock X M [.ref (ad X 85), .int x1, .int x2] (Qi X Q) := by
  refine ct_of (own := RX9) (lv := [(0, .ref (ad X 85)), (1, .int x1), (2, .int x2)]) rfl (by decide) (Nat.le_of_ble_eq_true rfl) rfl ?_
  intro K C
  unfold w_X9_knock at h
  refine r_aload_n (pc := 0) C 0 dX9_knock_0 rfl ?_
  refine r_iload_n (pc := 1) C 1 dX9_knock_1 rfl ?_
  have hM := c_X9_isPerson X  M x1 _ h
  refine q_s0 (s1 := List.reverse [.int x1] ++ .ref (ad X 85) :: []) rfl ?_
  refine r_callVi (pc := 2) (k := 85) (As := [.int x1]) (st := []) C 1 (by decide) (ce85 _) rfl aw484 aw485 hM aw483 aw486 aw5 yd_X9_isPerson ⟨rfl, rfl⟩ ⟨Nat.le_of_ble_eq_true rfl, Nat.le_of_ble_eq_true rfl⟩ rfl (Nat.le_of_ble_eq_true rfl) dX9_knock_2 (fun r2 M1 h => ?_)
  refine r_if_eq (pc := 5) (tgt := 16) C dX9_knock_5 (by decide) (fun c3 => ?_) (fun c3 => ?_)
  · have h := h.1 c3
    refine r_ldc (pc := 16) C aw142 dX9_knock_16 ?_
    exact r_iret (pc := 18) C dX9_knock_18 h
  · have h := h.2 c3
    refine r_aload_n (pc := 8) C 0 dX9_knock_8 rfl ?_
    refine r_iload_n (pc := 9) C 2 dX9_knock_9 rfl ?_
    have hM := c_X9_isDoor X  M1 x2 _ h
    refine q_s0 (s1 := List.reverse [.int x2] ++ .ref (ad X 85) :: []) rfl ?_
    refine r_callVi (pc := 10) (k := 85) (As := [.int x2]) (st := []) C 1 (by decide) (ce85 _) rfl aw488 aw489 hM aw487 aw490 aw5 yd_X9_isDoor ⟨rfl, rfl⟩ ⟨Nat.le_of_ble_eq_true rfl, Nat.le_of_ble_eq_true rfl⟩ rfl (Nat.le_of_ble_eq_true rfl) dX9_knock_10 (fun r5 M4 h => ?_)
    refine r_if_ne (pc := 13) (tgt := 19) C dX9_knock_13 (by decide) (fun c6 => ?_) (fun c6 => ?_)
    · have h := h.1 c6
      refine r_aload_n (pc := 19) C 0 dX9_knock_19 rfl ?_
      refine r_iconst (pc := 20) (v := 0) C dX9_knock_20 (by decide) ?_
      refine r_iload_n (pc := 21) C 2 dX9_knock_21 rfl ?_
      refine r_aload_n (pc := 22) C 0 dX9_knock_22 rfl ?_
      refine r_get (pc := 23) (k := 85) (j := 0) (Cn := RX9) (T := TX9) (N := 21) C (by decide) (ce85 _) rfl iaX9 (by decide) aw103 rfl rfl dX9_knock_23 ?_
      refine r_bipush (pc := 26) (v := 24) C dX9_knock_26 (by decide) ?_
      refine r_iload_n (pc := 28) C 1 dX9_knock_28 rfl ?_
      refine r_iadd (pc := 29) C dX9_knock_29 ?_
      refine r_topi (fun v7 ev7 => ?_)
      replace h := h v7 ev7
      obtain ⟨g8, h⟩ := h
      refine q_iald (pc := 30) (k := 86) (n := 3528) (j := (Int32.toNatClampNeg v7)) C (by decide) (ce86 _) g8 rfl dX9_knock_30 ?_
      have hM := c_X9_behind X  M4 0 x2 (M4 86 (Int32.toNatClampNeg v7)) _ h
      refine q_s0 (s1 := List.reverse [.int 0, .int x2, .int (M4 86 (Int32.toNatClampNeg v7))] ++ .ref (ad X 85) :: []) rfl ?_
      refine r_callVi (pc := 31) (k := 85) (As := [.int 0, .int x2, .int (M4 86 (Int32.toNatClampNeg v7))]) (st := []) C 3 (by decide) (ce85 _) rfl aw492 aw493 hM aw491 aw494 aw5 yd_X9_behind ⟨rfl, rfl⟩ ⟨Nat.le_of_ble_eq_true rfl, Nat.le_of_ble_eq_true rfl⟩ rfl (Nat.le_of_ble_eq_true rfl) dX9_knock_31 (fun r10 M9 h => ?_)
      refine r_ldc (pc := 34) C aw330 dX9_knock_34 ?_
      refine r_icmp_ne (pc := 36) (tgt := 42) C dX9_knock_36 (by decide) (fun c11 => ?_) (fun c11 => ?_)
      · have h := h.1 c11
        refine r_aload_n (pc := 42) C 0 dX9_knock_42 rfl ?_
        have hM := c_X9_keepPast X  M9  _ h
        refine q_s0 (s1 := List.reverse [] ++ .ref (ad X 85) :: []) rfl ?_
        refine r_callVv (pc := 43) (k := 85) (As := []) (st := []) C 0 (by decide) (ce85 _) rfl aw500 aw501 hM aw499 aw502 aw5 yd_X9_keepPast ⟨rfl, rfl⟩ ⟨Nat.le_of_ble_eq_true rfl, Nat.le_of_ble_eq_true rfl⟩ rfl (Nat.le_of_ble_eq_true rfl) dX9_knock_43 (fun M12 h => ?_)
        refine r_aload_n (pc := 46) C 0 dX9_knock_46 rfl ?_
        refine r_iconst (pc := 47) (v := 0) C dX9_knock_47 (by decide) ?_
        refine r_iload_n (pc := 48) C 1 dX9_knock_48 rfl ?_
        refine r_iload_n (pc := 49) C 2 dX9_knock_49 rfl ?_
        have hM := c_X9_knocks X  M12 0 x1 x2 _ h
        refine q_s0 (s1 := List.reverse [.int 0, .int x1, .int x2] ++ .ref (ad X 85) :: []) rfl ?_
        refine r_callVi (pc := 50) (k := 85) (As := [.int 0, .int x1, .int x2]) (st := []) C 3 (by decide) (ce85 _) rfl aw504 aw505 hM aw503 aw506 aw5 yd_X9_knocks ⟨rfl, rfl⟩ ⟨Nat.le_of_ble_eq_true rfl, Nat.le_of_ble_eq_true rfl⟩ rfl (Nat.le_of_ble_eq_true rfl) dX9_knock_50 (fun r15 M14 h => ?_)
        refine r_if_eq (pc := 53) (tgt := 60) C dX9_knock_53 (by decide) (fun c16 => ?_) (fun c16 => ?_)
        · have h := h.1 c16
          refine r_iconst (pc := 60) (v := 0) C dX9_knock_60 (by decide) ?_
          exact r_iret (pc := 61) C dX9_knock_61 h
        · have h := h.2 c16
          refine r_iconst (pc := 56) (v := 1) C dX9_knock_56 (by decide) ?_
          refine r_goto (pc := 57) (tgt := 61) C dX9_knock_57 (by decide) ?_
          exact r_iret (pc := 61) C dX9_knock_61 h
      · have h := h.2 c11
        refine r_ldc (pc := 39) C aw408 dX9_knock_39 ?_
        exact r_iret (pc := 41) C dX9_knock_41 h
    · have h := h.2 c6
      refine r_ldc (pc := 16) C aw142 dX9_knock_16 ?_
      exact r_iret (pc := 18) C dX9_knock_18 h
theorem yd_X9_days : yX9_days.cls ≠ "java/lang/invoke/MethodHandle" ∧ yX9_days.cls ≠ "java/lang/invoke/VarHandle" ∧ (parseMethodDescriptor yX9_days.desc).map (fun d => d.parameters.length) = some 1 := by decide +kernel
def wB_X9_days_46  (Q : Int32 → Mem → Prop)  (R46 : Mem → Int32 → Int32 → Prop) (M : Mem) (x1 : Int32) (x2 : Int32) : Prop :=
  ((x1 ≤ x2) → (Q (M 86 4) M)) ∧ ((¬ x1 ≤ x2) → (w_X9_keepPast  M  (fun M2 => ∀ v4 : Int32, v4 = ((M2 86 4) + 1) → (∀ M5 : Mem, M5 = ms M2 86 4 v4 → (∀ v6 : Int32, v6 = x2 + 1 → (R46 M5 x1 v6))))))
def wL_X9_days_46  (Q : Int32 → Mem → Prop)  : Nat → Mem → Int32 → Int32 → Prop
  | 0 => fun _ _ _ => False
  | n + 1 => fun M x1 x2 => wB_X9_days_46  Q  (wL_X9_days_46  Q  n) M x1 x2
theorem wL_X9_days_46_s  {Q : Int32 → Mem → Prop}  {n : Nat} {M : Mem} {x1 : Int32} {x2 : Int32} (h : wL_X9_days_46  Q  (n + 1) M x1 x2) : wB_X9_days_46  Q  (wL_X9_days_46  Q  n) M x1 x2 := h
def w_X9_days  (M : Mem) (x1 : Int32) (Q : Int32 → Mem → Prop) : Prop :=
  ((¬ (M 86 3) = 0) → (w_X9_in  M (Int32.toInt64 x1) 1 24 (fun r3 M2 => ((¬ r3 = 0) → (((((M2 86 4) + x1) ≤ 999) → (∃ n6 : Nat, wL_X9_days_46  Q  n6 M2 x1 0)) ∧ ((¬ ((M2 86 4) + x1) ≤ 999) → (Q (-1000003) M2)))) ∧ ((r3 = 0) → (Q (-1000001) M2))))) ∧ (((M 86 3) = 0) → (Q (-1000002) M))
abbrev rm_X9_days : Room := { frames := 9, cells := 0, slots := 0, locals := 180 }
set_option maxHeartbeats 4000000 in
set_option maxRecDepth 100000 in
theorem c_X9_days (X : Cx)  (M : Mem) (x1 : Int32) (Q : Int32 → Mem → Prop) (h : w_X9_days  M x1 Q) : Ct yX9_days cX9_days 3 (some .int) rm_X9_days X M [.ref (ad X 85), .int x1] (Qi X Q) := by
  refine ct_of (own := RX9) (lv := [(0, .ref (ad X 85)), (1, .int x1)]) rfl (by decide) (Nat.le_of_ble_eq_true rfl) rfl ?_
  intro K C
  have hL46 : ∀  (n : Nat) (M : Mem) (x1 : Int32) (x2 : Int32), wL_X9_days_46  Q  n M x1 x2 → WX K X 3 (Qi X Q) M 46 [(0, .ref (ad X 85)), (1, .int x1), (2, .int x2)] [] := by
    intro  n
    induction n with
    | zero => intro M x1 x2 h; exact absurd h id
    | succ n ih =>
      intro M x1 x2 h
      replace h := wL_X9_days_46_s h
      unfold wB_X9_days_46 at h
      refine r_iload_n (pc := 46) C 2 dX9_days_46 rfl ?_
      refine r_iload_n (pc := 47) C 1 dX9_days_47 rfl ?_
      refine r_icmp_ge (pc := 48) (tgt := 71) C dX9_days_48 (by decide) (fun c1 => ?_) (fun c1 => ?_)
      · have h := h.1 c1
        refine r_aload_n (pc := 71) C 0 dX9_days_71 rfl ?_
        refine r_get (pc := 72) (k := 85) (j := 0) (Cn := RX9) (T := TX9) (N := 21) C (by decide) (ce85 _) rfl iaX9 (by decide) aw103 rfl rfl dX9_days_72 ?_
        refine r_iconst (pc := 75) (v := 4) C dX9_days_75 (by decide) ?_
        refine q_iald (pc := 76) (k := 86) (n := 3528) (j := 4) C (by decide) (ce86 _) (in_lit (by decide)) (by decide) dX9_days_76 ?_
        exact r_iret (pc := 77) C dX9_days_77 h
      · have h := h.2 c1
        refine r_aload_n (pc := 51) C 0 dX9_days_51 rfl ?_
        have hM := c_X9_keepPast X  M  _ h
        refine q_s0 (s1 := List.reverse [] ++ .ref (ad X 85) :: []) rfl ?_
        refine r_callVv (pc := 52) (k := 85) (As := []) (st := []) C 0 (by decide) (ce85 _) rfl aw500 aw501 hM aw499 aw502 aw5 yd_X9_keepPast ⟨rfl, rfl⟩ ⟨Nat.le_of_ble_eq_true rfl, Nat.le_of_ble_eq_true rfl⟩ rfl (Nat.le_of_ble_eq_true rfl) dX9_days_52 (fun M2 h => ?_)
        refine r_aload_n (pc := 55) C 0 dX9_days_55 rfl ?_
        refine r_get (pc := 56) (k := 85) (j := 0) (Cn := RX9) (T := TX9) (N := 21) C (by decide) (ce85 _) rfl iaX9 (by decide) aw103 rfl rfl dX9_days_56 ?_
        refine r_iconst (pc := 59) (v := 4) C dX9_days_59 (by decide) ?_
        refine r_dup2 (pc := 60) C dX9_days_60 rfl rfl ?_
        refine q_iald (pc := 61) (k := 86) (n := 3528) (j := 4) C (by decide) (ce86 _) (in_lit (by decide)) (by decide) dX9_days_61 ?_
        refine r_iconst (pc := 62) (v := 1) C dX9_days_62 (by decide) ?_
        refine r_iadd (pc := 63) C dX9_days_63 ?_
        refine r_topi (fun v4 ev4 => ?_)
        replace h := h v4 ev4
        refine q_iast (pc := 64) (k := 86) (n := 3528) (j := 4) C (by decide) (ce86) (in_lit (by decide)) (by decide) dX9_days_64 ?_
        refine r_topM (fun M5 eM5 => ?_)
        replace h := h M5 eM5
        obtain ⟨v6, ev6⟩ : ∃ z : Int32, z = x2 + 1 := ⟨_, rfl⟩
        replace h := h v6 ev6
        refine r_iinc (pc := 65) (v := v6) (lv2 := [(2, .int v6), (0, .ref (ad X 85)), (1, .int x1)]) C 2 dX9_days_65 rfl (by rw [ev6]; rfl) (by decide) rfl ?_
        refine r_goto (pc := 68) (tgt := 46) C dX9_days_68 (by decide) ?_
        refine r_sub (lv2 := [(0, .ref (ad X 85)), (1, .int x1), (2, .int v6)]) [1, 2, 0] rfl ?_
        exact ih _ _ _ h
  unfold w_X9_days at h
  refine r_aload_n (pc := 0) C 0 dX9_days_0 rfl ?_
  refine r_get (pc := 1) (k := 85) (j := 0) (Cn := RX9) (T := TX9) (N := 21) C (by decide) (ce85 _) rfl iaX9 (by decide) aw103 rfl rfl dX9_days_1 ?_
  refine r_iconst (pc := 4) (v := 3) C dX9_days_4 (by decide) ?_
  refine q_iald (pc := 5) (k := 86) (n := 3528) (j := 3) C (by decide) (ce86 _) (in_lit (by decide)) (by decide) dX9_days_5 ?_
  refine r_if_ne (pc := 6) (tgt := 12) C dX9_days_6 (by decide) (fun c1 => ?_) (fun c1 => ?_)
  · have h := h.1 c1
    refine r_iload_n (pc := 12) C 1 dX9_days_12 rfl ?_
    refine r_i2l (pc := 13) C dX9_days_13 ?_
    refine r_lconst (pc := 14) (v := 1) C dX9_days_14 (by decide) ?_
    refine r_ldc2 (pc := 15) C aw552 dX9_days_15 ?_
    have hM := c_X9_in X  M (Int32.toInt64 x1) 1 24 _ h
    refine q_s0 (s1 := List.reverse [.long (Int32.toInt64 x1), .long 1, .long 24] ++ []) rfl ?_
    refine r_callSi (pc := 18) (As := [.long (Int32.toInt64 x1), .long 1, .long 24]) (st := []) C 3 hM aw147 aw148 aw149 aw5 yd_X9_in ⟨rfl, rfl⟩ ⟨Nat.le_of_ble_eq_true rfl, Nat.le_of_ble_eq_true rfl⟩ rfl (Nat.le_of_ble_eq_true rfl) dX9_days_18 (fun r3 M2 h => ?_)
    refine r_if_ne (pc := 21) (tgt := 27) C dX9_days_21 (by decide) (fun c4 => ?_) (fun c4 => ?_)
    · have h := h.1 c4
      refine r_aload_n (pc := 27) C 0 dX9_days_27 rfl ?_
      refine r_get (pc := 28) (k := 85) (j := 0) (Cn := RX9) (T := TX9) (N := 21) C (by decide) (ce85 _) rfl iaX9 (by decide) aw103 rfl rfl dX9_days_28 ?_
      refine r_iconst (pc := 31) (v := 4) C dX9_days_31 (by decide) ?_
      refine q_iald (pc := 32) (k := 86) (n := 3528) (j := 4) C (by decide) (ce86 _) (in_lit (by decide)) (by decide) dX9_days_32 ?_
      refine r_iload_n (pc := 33) C 1 dX9_days_33 rfl ?_
      refine r_iadd (pc := 34) C dX9_days_34 ?_
      refine r_sipush (pc := 35) (v := 999) C dX9_days_35 (by decide) ?_
      refine r_icmp_le (pc := 38) (tgt := 44) C dX9_days_38 (by decide) (fun c5 => ?_) (fun c5 => ?_)
      · have h := h.1 c5
        refine r_iconst (pc := 44) (v := 0) C dX9_days_44 (by decide) ?_
        refine r_istore_n (pc := 45) (lv2 := [(2, .int 0), (0, .ref (ad X 85)), (1, .int x1)]) C dX9_days_45 (by decide) rfl ?_
        obtain ⟨n6, h⟩ := h
        refine r_sub (lv2 := [(0, .ref (ad X 85)), (1, .int x1), (2, .int 0)]) [1, 2, 0] rfl ?_
        exact hL46  _ _ _ _ h
      · have h := h.2 c5
        refine r_ldc (pc := 41) C aw223 dX9_days_41 ?_
        exact r_iret (pc := 43) C dX9_days_43 h
    · have h := h.2 c4
      refine r_ldc (pc := 24) C aw142 dX9_days_24 ?_
      exact r_iret (pc := 26) C dX9_days_26 h
  · have h := h.2 c1
    refine r_ldc (pc := 9) C aw408 dX9_days_9 ?_
    exact r_iret (pc := 11) C dX9_days_11 h
theorem yd_X9_gift : yX9_gift.cls ≠ "java/lang/invoke/MethodHandle" ∧ yX9_gift.cls ≠ "java/lang/invoke/VarHandle" ∧ (parseMethodDescriptor yX9_gift.desc).map (fun d => d.parameters.length) = some 2 := by decide +kernel
def wJ_X9_gift_21  (Q : Int32 → Mem → Prop)  (M : Mem) (x1 : Int32) (x2 : Int32) : Prop :=
  ∀ v1 : Int32, v1 = (36 + x1) → (vp_in v1 3528 ∧ (w_X9_in  M (Int32.toInt64 ((M 86 (Int32.toNatClampNeg v1)) + x2)) (-9) 9 (fun r4 M3 => ((¬ r4 = 0) → (w_X9_keepPast  M3  (fun M6 => ∀ v8 : Int32, v8 = (36 + x1) → (vp_in v8 3528 ∧ (∀ v10 : Int32, v10 = ((M6 86 (Int32.toNatClampNeg v8)) + x2) → (vp_in v8 3528 ∧ (∀ M12 : Mem, M12 = ms M6 86 (Int32.toNatClampNeg v8) v10 → (∀ v13 : Int32, v13 = (36 + x1) → (vp_in v13 3528 ∧ (Q (M12 86 (Int32.toNatClampNeg v13)) M12)))))))))) ∧ ((r4 = 0) → (Q (-1000003) M3)))))
def w_X9_gift  (M : Mem) (x1 : Int32) (x2 : Int32) (Q : Int32 → Mem → Prop) : Prop :=
  w_X9_isPerson  M x1 (fun r2 M1 => ((r2 = 0) → (Q (-1000001) M1)) ∧ ((¬ r2 = 0) → (((x2 = 1) → (wJ_X9_gift_21  Q  M1 x1 x2)) ∧ ((¬ x2 = 1) → (((x2 = (-1)) → (wJ_X9_gift_21  Q  M1 x1 x2)) ∧ ((¬ x2 = (-1)) → (Q (-1000001) M1)))))))
abbrev rm_X9_gift : Room := { frames := 9, cells := 0, slots := 0, locals := 180 }
set_option maxHeartbeats 4000000 in
set_option maxRecDepth 100000 in
theorem c_X9_gift (X : Cx)  (M : Mem) (x1 : Int32) (x2 : Int32) (Q : Int32 → Mem → Prop) (h : w_X9_gift  M x1 x2 Q) : Ct yX9_gift cX9_gift 3 (some .int) rm_X9_gift X M [.ref (ad X 85), .int x1, .int x2] (Qi X Q) := by
  refine ct_of (own := RX9) (lv := [(0, .ref (ad X 85)), (1, .int x1), (2, .int x2)]) rfl (by decide) (Nat.le_of_ble_eq_true rfl) rfl ?_
  intro K C
  have hJ21 : ∀  (M : Mem) (x1 : Int32) (x2 : Int32), wJ_X9_gift_21  Q  M x1 x2 → WX K X 3 (Qi X Q) M 21 [(0, .ref (ad X 85)), (1, .int x1), (2, .int x2)] [] := by
    intro  M x1 x2 h
    unfold wJ_X9_gift_21 at h
    refine r_aload_n (pc := 21) C 0 dX9_gift_21 rfl ?_
    refine r_get (pc := 22) (k := 85) (j := 0) (Cn := RX9) (T := TX9) (N := 21) C (by decide) (ce85 _) rfl iaX9 (by decide) aw103 rfl rfl dX9_gift_22 ?_
    refine r_bipush (pc := 25) (v := 36) C dX9_gift_25 (by decide) ?_
    refine r_iload_n (pc := 27) C 1 dX9_gift_27 rfl ?_
    refine r_iadd (pc := 28) C dX9_gift_28 ?_
    refine r_topi (fun v1 ev1 => ?_)
    replace h := h v1 ev1
    obtain ⟨g2, h⟩ := h
    refine q_iald (pc := 29) (k := 86) (n := 3528) (j := (Int32.toNatClampNeg v1)) C (by decide) (ce86 _) g2 rfl dX9_gift_29 ?_
    refine r_iload_n (pc := 30) C 2 dX9_gift_30 rfl ?_
    refine r_iadd (pc := 31) C dX9_gift_31 ?_
    refine r_i2l (pc := 32) C dX9_gift_32 ?_
    refine r_ldc2 (pc := 33) C aw561 dX9_gift_33 ?_
    refine r_ldc2 (pc := 36) C aw562 dX9_gift_36 ?_
    have hM := c_X9_in X  M (Int32.toInt64 ((M 86 (Int32.toNatClampNeg v1)) + x2)) (-9) 9 _ h
    refine q_s0 (s1 := List.reverse [.long (Int32.toInt64 ((M 86 (Int32.toNatClampNeg v1)) + x2)), .long (-9), .long 9] ++ []) rfl ?_
    refine r_callSi (pc := 39) (As := [.long (Int32.toInt64 ((M 86 (Int32.toNatClampNeg v1)) + x2)), .long (-9), .long 9]) (st := []) C 3 hM aw147 aw148 aw149 aw5 yd_X9_in ⟨rfl, rfl⟩ ⟨Nat.le_of_ble_eq_true rfl, Nat.le_of_ble_eq_true rfl⟩ rfl (Nat.le_of_ble_eq_true rfl) dX9_gift_39 (fun r4 M3 h => ?_)
    refine r_if_ne (pc := 42) (tgt := 48) C dX9_gift_42 (by decide) (fun c5 => ?_) (fun c5 => ?_)
    · have h := h.1 c5
      refine r_aload_n (pc := 48) C 0 dX9_gift_48 rfl ?_
      have hM := c_X9_keepPast X  M3  _ h
      refine q_s0 (s1 := List.reverse [] ++ .ref (ad X 85) :: []) rfl ?_
      refine r_callVv (pc := 49) (k := 85) (As := []) (st := []) C 0 (by decide) (ce85 _) rfl aw500 aw501 hM aw499 aw502 aw5 yd_X9_keepPast ⟨rfl, rfl⟩ ⟨Nat.le_of_ble_eq_true rfl, Nat.le_of_ble_eq_true rfl⟩ rfl (Nat.le_of_ble_eq_true rfl) dX9_gift_49 (fun M6 h => ?_)
      refine r_aload_n (pc := 52) C 0 dX9_gift_52 rfl ?_
      refine r_get (pc := 53) (k := 85) (j := 0) (Cn := RX9) (T := TX9) (N := 21) C (by decide) (ce85 _) rfl iaX9 (by decide) aw103 rfl rfl dX9_gift_53 ?_
      refine r_bipush (pc := 56) (v := 36) C dX9_gift_56 (by decide) ?_
      refine r_iload_n (pc := 58) C 1 dX9_gift_58 rfl ?_
      refine r_iadd (pc := 59) C dX9_gift_59 ?_
      refine r_topi (fun v8 ev8 => ?_)
      replace h := h v8 ev8
      refine r_dup2 (pc := 60) C dX9_gift_60 rfl rfl ?_
      obtain ⟨g9, h⟩ := h
      refine q_iald (pc := 61) (k := 86) (n := 3528) (j := (Int32.toNatClampNeg v8)) C (by decide) (ce86 _) g9 rfl dX9_gift_61 ?_
      refine r_iload_n (pc := 62) C 2 dX9_gift_62 rfl ?_
      refine r_iadd (pc := 63) C dX9_gift_63 ?_
      refine r_topi (fun v10 ev10 => ?_)
      replace h := h v10 ev10
      obtain ⟨g11, h⟩ := h
      refine q_iast (pc := 64) (k := 86) (n := 3528) (j := (Int32.toNatClampNeg v8)) C (by decide) (ce86) g11 rfl dX9_gift_64 ?_
      refine r_topM (fun M12 eM12 => ?_)
      replace h := h M12 eM12
      refine r_aload_n (pc := 65) C 0 dX9_gift_65 rfl ?_
      refine r_get (pc := 66) (k := 85) (j := 0) (Cn := RX9) (T := TX9) (N := 21) C (by decide) (ce85 _) rfl iaX9 (by decide) aw103 rfl rfl dX9_gift_66 ?_
      refine r_bipush (pc := 69) (v := 36) C dX9_gift_69 (by decide) ?_
      refine r_iload_n (pc := 71) C 1 dX9_gift_71 rfl ?_
      refine r_iadd (pc := 72) C dX9_gift_72 ?_
      refine r_topi (fun v13 ev13 => ?_)
      replace h := h v13 ev13
      obtain ⟨g14, h⟩ := h
      refine q_iald (pc := 73) (k := 86) (n := 3528) (j := (Int32.toNatClampNeg v13)) C (by decide) (ce86 _) g14 rfl dX9_gift_73 ?_
      exact r_iret (pc := 74) C dX9_gift_74 h
    · have h := h.2 c5
      refine r_ldc (pc := 45) C aw223 dX9_gift_45 ?_
      exact r_iret (pc := 47) C dX9_gift_47 h
  unfold w_X9_gift at h
  refine r_aload_n (pc := 0) C 0 dX9_gift_0 rfl ?_
  refine r_iload_n (pc := 1) C 1 dX9_gift_1 rfl ?_
  have hM := c_X9_isPerson X  M x1 _ h
  refine q_s0 (s1 := List.reverse [.int x1] ++ .ref (ad X 85) :: []) rfl ?_
  refine r_callVi (pc := 2) (k := 85) (As := [.int x1]) (st := []) C 1 (by decide) (ce85 _) rfl aw484 aw485 hM aw483 aw486 aw5 yd_X9_isPerson ⟨rfl, rfl⟩ ⟨Nat.le_of_ble_eq_true rfl, Nat.le_of_ble_eq_true rfl⟩ rfl (Nat.le_of_ble_eq_true rfl) dX9_gift_2 (fun r2 M1 h => ?_)
  refine r_if_eq (pc := 5) (tgt := 18) C dX9_gift_5 (by decide) (fun c3 => ?_) (fun c3 => ?_)
  · have h := h.1 c3
    refine r_ldc (pc := 18) C aw142 dX9_gift_18 ?_
    exact r_iret (pc := 20) C dX9_gift_20 h
  · have h := h.2 c3
    refine r_iload_n (pc := 8) C 2 dX9_gift_8 rfl ?_
    refine r_iconst (pc := 9) (v := 1) C dX9_gift_9 (by decide) ?_
    refine r_icmp_eq (pc := 10) (tgt := 21) C dX9_gift_10 (by decide) (fun c4 => ?_) (fun c4 => ?_)
    · have h := h.1 c4
      refine r_sub (lv2 := [(0, .ref (ad X 85)), (1, .int x1), (2, .int x2)]) [0, 1, 2] rfl ?_
      exact hJ21  _ _ _ h
    · have h := h.2 c4
      refine r_iload_n (pc := 13) C 2 dX9_gift_13 rfl ?_
      refine r_iconst (pc := 14) (v := (-1)) C dX9_gift_14 (by decide) ?_
      refine r_icmp_eq (pc := 15) (tgt := 21) C dX9_gift_15 (by decide) (fun c5 => ?_) (fun c5 => ?_)
      · have h := h.1 c5
        refine r_sub (lv2 := [(0, .ref (ad X 85)), (1, .int x1), (2, .int x2)]) [0, 1, 2] rfl ?_
        exact hJ21  _ _ _ h
      · have h := h.2 c5
        refine r_ldc (pc := 18) C aw142 dX9_gift_18 ?_
        exact r_iret (pc := 20) C dX9_gift_20 h
