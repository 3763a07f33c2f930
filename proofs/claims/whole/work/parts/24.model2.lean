theorem yd_X9_build : yX9_build.cls ≠ "java/lang/invoke/MethodHandle" ∧ yX9_build.cls ≠ "java/lang/invoke/VarHandle" ∧ (parseMethodDescriptor yX9_build.desc).map (fun d => d.parameters.length) = some 2 := by decide +kernel
def w_X9_build  (M : Mem) (x1 : Int32) (x2 : Int32) (Q : Int32 → Mem → Prop) : Prop :=
  w_X9_isRoom  M x1 (fun r2 M1 => ((r2 = 0) → (Q (-1000001) M1)) ∧ ((¬ r2 = 0) → (w_X9_isRoom  M1 x2 (fun r5 M4 => ((r5 = 0) → (Q (-1000001) M4)) ∧ ((¬ r5 = 0) → (((¬ x1 = x2) → (((¬ (M4 86 2) = 6) → (w_X9_keepPast  M4  (fun M9 => ∀ v11 : Int32, v11 = (M9 86 2) → (vp_in (6 + (2 * v11)) 3528 ∧ (∀ M13 : Mem, M13 = ms M9 86 (Int32.toNatClampNeg (6 + (2 * v11))) x1 → (vp_in ((6 + (2 * v11)) + 1) 3528 ∧ (∀ M15 : Mem, M15 = ms M13 86 (Int32.toNatClampNeg ((6 + (2 * v11)) + 1)) x2 → (∀ v16 : Int32, v16 = ((M15 86 2) + 1) → (∀ M17 : Mem, M17 = ms M15 86 2 v16 → (Q v11 M17)))))))))) ∧ (((M4 86 2) = 6) → (Q (-1000003) M4)))) ∧ ((x1 = x2) → (Q (-1000001) M4))))))))
abbrev rm_X9_build : Room := { frames := 9, cells := 0, slots := 0, locals := 180 }
set_option maxHeartbeats 4000000 in
set_option maxRecDepth 100000 in
theorem c_X9_build (X : Cx)  (M : Mem) (x1 : Int32) (x2 : Int32) (Q : Int32 → Mem → Prop) (h : w_X9_build  M x1 x2 Q) : Ct yX9_build cX9_build 4 (some .int) rm_X9_build X M [.ref (ad X 85), .int x1, .int x2] (Qi X Q) := by
  refine ct_of (own := RX9) (lv := [(0, .ref (ad X 85)), (1, .int x1), (2, .int x2)]) rfl (by decide) (Nat.le_of_ble_eq_true rfl) rfl ?_
  intro K C
  unfold w_X9_build at h
  refine r_aload_n (pc := 0) C 0 dX9_build_0 rfl ?_
  refine r_iload_n (pc := 1) C 1 dX9_build_1 rfl ?_
  have hM := c_X9_isRoom X  M x1 _ h
  refine q_s0 (s1 := List.reverse [.int x1] ++ .ref (ad X 85) :: []) rfl ?_
  refine r_callVi (pc := 2) (k := 85) (As := [.int x1]) (st := []) C 1 (by decide) (ce85 _) rfl aw576 aw577 hM aw575 aw578 aw5 yd_X9_isRoom ⟨rfl, rfl⟩ ⟨Nat.le_of_ble_eq_true rfl, Nat.le_of_ble_eq_true rfl⟩ rfl (Nat.le_of_ble_eq_true rfl) dX9_build_2 (fun r2 M1 h => ?_)
  refine r_if_eq (pc := 5) (tgt := 21) C dX9_build_5 (by decide) (fun c3 => ?_) (fun c3 => ?_)
  · have h := h.1 c3
    refine r_ldc (pc := 21) C aw142 dX9_build_21 ?_
    exact r_iret (pc := 23) C dX9_build_23 h
  · have h := h.2 c3
    refine r_aload_n (pc := 8) C 0 dX9_build_8 rfl ?_
    refine r_iload_n (pc := 9) C 2 dX9_build_9 rfl ?_
    have hM := c_X9_isRoom X  M1 x2 _ h
    refine q_s0 (s1 := List.reverse [.int x2] ++ .ref (ad X 85) :: []) rfl ?_
    refine r_callVi (pc := 10) (k := 85) (As := [.int x2]) (st := []) C 1 (by decide) (ce85 _) rfl aw576 aw577 hM aw575 aw578 aw5 yd_X9_isRoom ⟨rfl, rfl⟩ ⟨Nat.le_of_ble_eq_true rfl, Nat.le_of_ble_eq_true rfl⟩ rfl (Nat.le_of_ble_eq_true rfl) dX9_build_10 (fun r5 M4 h => ?_)
    refine r_if_eq (pc := 13) (tgt := 21) C dX9_build_13 (by decide) (fun c6 => ?_) (fun c6 => ?_)
    · have h := h.1 c6
      refine r_ldc (pc := 21) C aw142 dX9_build_21 ?_
      exact r_iret (pc := 23) C dX9_build_23 h
    · have h := h.2 c6
      refine r_iload_n (pc := 16) C 1 dX9_build_16 rfl ?_
      refine r_iload_n (pc := 17) C 2 dX9_build_17 rfl ?_
      refine r_icmp_ne (pc := 18) (tgt := 24) C dX9_build_18 (by decide) (fun c7 => ?_) (fun c7 => ?_)
      · have h := h.1 c7
        refine r_aload_n (pc := 24) C 0 dX9_build_24 rfl ?_
        refine r_get (pc := 25) (k := 85) (j := 0) (Cn := RX9) (T := TX9) (N := 21) C (by decide) (ce85 _) rfl iaX9 (by decide) aw103 rfl rfl dX9_build_25 ?_
        refine r_iconst (pc := 28) (v := 2) C dX9_build_28 (by decide) ?_
        refine q_iald (pc := 29) (k := 86) (n := 3528) (j := 2) C (by decide) (ce86 _) (in_lit (by decide)) (by decide) dX9_build_29 ?_
        refine r_bipush (pc := 30) (v := 6) C dX9_build_30 (by decide) ?_
        refine r_icmp_ne (pc := 32) (tgt := 38) C dX9_build_32 (by decide) (fun c8 => ?_) (fun c8 => ?_)
        · have h := h.1 c8
          refine r_aload_n (pc := 38) C 0 dX9_build_38 rfl ?_
          have hM := c_X9_keepPast X  M4  _ h
          refine q_s0 (s1 := List.reverse [] ++ .ref (ad X 85) :: []) rfl ?_
          refine r_callVv (pc := 39) (k := 85) (As := []) (st := []) C 0 (by decide) (ce85 _) rfl aw500 aw501 hM aw499 aw502 aw5 yd_X9_keepPast ⟨rfl, rfl⟩ ⟨Nat.le_of_ble_eq_true rfl, Nat.le_of_ble_eq_true rfl⟩ rfl (Nat.le_of_ble_eq_true rfl) dX9_build_39 (fun M9 h => ?_)
          refine r_aload_n (pc := 42) C 0 dX9_build_42 rfl ?_
          refine r_get (pc := 43) (k := 85) (j := 0) (Cn := RX9) (T := TX9) (N := 21) C (by decide) (ce85 _) rfl iaX9 (by decide) aw103 rfl rfl dX9_build_43 ?_
          refine r_iconst (pc := 46) (v := 2) C dX9_build_46 (by decide) ?_
          refine q_iald (pc := 47) (k := 86) (n := 3528) (j := 2) C (by decide) (ce86 _) (in_lit (by decide)) (by decide) dX9_build_47 ?_
          refine r_topi (fun v11 ev11 => ?_)
          replace h := h v11 ev11
          refine r_istore_n (pc := 48) (lv2 := [(3, .int v11), (0, .ref (ad X 85)), (1, .int x1), (2, .int x2)]) C dX9_build_48 (by decide) rfl ?_
          refine r_aload_n (pc := 49) C 1 dX9_build_49 rfl ?_
          refine r_get (pc := 50) (k := 85) (j := 0) (Cn := RX9) (T := TX9) (N := 21) C (by decide) (ce85 _) rfl iaX9 (by decide) aw103 rfl rfl dX9_build_50 ?_
          refine r_bipush (pc := 53) (v := 6) C dX9_build_53 (by decide) ?_
          refine r_iconst (pc := 55) (v := 2) C dX9_build_55 (by decide) ?_
          refine r_iload_n (pc := 56) C 0 dX9_build_56 rfl ?_
          refine r_imul (pc := 57) C dX9_build_57 ?_
          refine r_iadd (pc := 58) C dX9_build_58 ?_
          refine r_iload_n (pc := 59) C 2 dX9_build_59 rfl ?_
          obtain ⟨g12, h⟩ := h
          refine q_iast (pc := 60) (k := 86) (n := 3528) (j := (Int32.toNatClampNeg (6 + (2 * v11)))) C (by decide) (ce86) g12 rfl dX9_build_60 ?_
          refine r_topM (fun M13 eM13 => ?_)
          replace h := h M13 eM13
          refine r_aload_n (pc := 61) C 1 dX9_build_61 rfl ?_
          refine r_get (pc := 62) (k := 85) (j := 0) (Cn := RX9) (T := TX9) (N := 21) C (by decide) (ce85 _) rfl iaX9 (by decide) aw103 rfl rfl dX9_build_62 ?_
          refine r_bipush (pc := 65) (v := 6) C dX9_build_65 (by decide) ?_
          refine r_iconst (pc := 67) (v := 2) C dX9_build_67 (by decide) ?_
          refine r_iload_n (pc := 68) C 0 dX9_build_68 rfl ?_
          refine r_imul (pc := 69) C dX9_build_69 ?_
          refine r_iadd (pc := 70) C dX9_build_70 ?_
          refine r_iconst (pc := 71) (v := 1) C dX9_build_71 (by decide) ?_
          refine r_iadd (pc := 72) C dX9_build_72 ?_
          refine r_iload_n (pc := 73) C 3 dX9_build_73 rfl ?_
          obtain ⟨g14, h⟩ := h
          refine q_iast (pc := 74) (k := 86) (n := 3528) (j := (Int32.toNatClampNeg ((6 + (2 * v11)) + 1))) C (by decide) (ce86) g14 rfl dX9_build_74 ?_
          refine r_topM (fun M15 eM15 => ?_)
          replace h := h M15 eM15
          refine r_aload_n (pc := 75) C 1 dX9_build_75 rfl ?_
          refine r_get (pc := 76) (k := 85) (j := 0) (Cn := RX9) (T := TX9) (N := 21) C (by decide) (ce85 _) rfl iaX9 (by decide) aw103 rfl rfl dX9_build_76 ?_
          refine r_iconst (pc := 79) (v := 2) C dX9_build_79 (by decide) ?_
          refine r_dup2 (pc := 80) C dX9_build_80 rfl rfl ?_
          refine q_iald (pc := 81) (k := 86) (n := 3528) (j := 2) C (by decide) (ce86 _) (in_lit (by decide)) (by decide) dX9_build_81 ?_
          refine r_iconst (pc := 82) (v := 1) C dX9_build_82 (by decide) ?_
          refine r_iadd (pc := 83) C dX9_build_83 ?_
          refine r_topi (fun v16 ev16 => ?_)
          replace h := h v16 ev16
          refine q_iast (pc := 84) (k := 86) (n := 3528) (j := 2) C (by decide) (ce86) (in_lit (by decide)) (by decide) dX9_build_84 ?_
          refine r_topM (fun M17 eM17 => ?_)
          replace h := h M17 eM17
          refine r_iload_n (pc := 85) C 0 dX9_build_85 rfl ?_
          exact r_iret (pc := 86) C dX9_build_86 h
        · have h := h.2 c8
          refine r_ldc (pc := 35) C aw223 dX9_build_35 ?_
          exact r_iret (pc := 37) C dX9_build_37 h
      · have h := h.2 c7
        refine r_ldc (pc := 21) C aw142 dX9_build_21 ?_
        exact r_iret (pc := 23) C dX9_build_23 h
theorem yd_X9_allTimes : yX9_allTimes.cls ≠ "java/lang/invoke/MethodHandle" ∧ yX9_allTimes.cls ≠ "java/lang/invoke/VarHandle" ∧ (parseMethodDescriptor yX9_allTimes.desc).map (fun d => d.parameters.length) = some 1 := by decide +kernel
def wB_X9_allTimes_4  (Q : Int32 → Mem → Prop)  (R4 : Mem → Int32 → Int32 → Int32 → Prop) (M : Mem) (x1 : Int32) (x2 : Int32) (x3 : Int32) : Prop :=
  ((6 ≤ x3) → (Q x2 M)) ∧ ((¬ 6 ≤ x3) → (w_X9_timesOf  M 0 x1 x3 (fun r3 M2 => ∀ v4 : Int32, v4 = (x2 + r3) → (∀ v5 : Int32, v5 = x3 + 1 → (R4 M2 x1 v4 v5)))))
def wL_X9_allTimes_4  (Q : Int32 → Mem → Prop)  : Nat → Mem → Int32 → Int32 → Int32 → Prop
  | 0 => fun _ _ _ _ => False
  | n + 1 => fun M x1 x2 x3 => wB_X9_allTimes_4  Q  (wL_X9_allTimes_4  Q  n) M x1 x2 x3
theorem wL_X9_allTimes_4_s  {Q : Int32 → Mem → Prop}  {n : Nat} {M : Mem} {x1 : Int32} {x2 : Int32} {x3 : Int32} (h : wL_X9_allTimes_4  Q  (n + 1) M x1 x2 x3) : wB_X9_allTimes_4  Q  (wL_X9_allTimes_4  Q  n) M x1 x2 x3 := h
def w_X9_allTimes  (M : Mem) (x1 : Int32) (Q : Int32 → Mem → Prop) : Prop :=
  ∃ n1 : Nat, wL_X9_allTimes_4  Q  n1 M x1 0 0
abbrev rm_X9_allTimes : Room := { frames := 6, cells := 0, slots := 0, locals := 120 }
set_option maxHeartbeats 4000000 in
set_option maxRecDepth 100000 in
theorem c_X9_allTimes (X : Cx)  (M : Mem) (x1 : Int32) (Q : Int32 → Mem → Prop) (h : w_X9_allTimes  M x1 Q) : Ct yX9_allTimes cX9_allTimes 4 (some .int) rm_X9_allTimes X M [.ref (ad X 85), .int x1] (Qi X Q) := by
  refine ct_of (own := RX9) (lv := [(0, .ref (ad X 85)), (1, .int x1)]) rfl (by decide) (Nat.le_of_ble_eq_true rfl) rfl ?_
  intro K C
  have hL4 : ∀  (n : Nat) (M : Mem) (x1 : Int32) (x2 : Int32) (x3 : Int32), wL_X9_allTimes_4  Q  n M x1 x2 x3 → WX K X 4 (Qi X Q) M 4 [(0, .ref (ad X 85)), (1, .int x1), (2, .int x2), (3, .int x3)] [] := by
    intro  n
    induction n with
    | zero => intro M x1 x2 x3 h; exact absurd h id
    | succ n ih =>
      intro M x1 x2 x3 h
      replace h := wL_X9_allTimes_4_s h
      unfold wB_X9_allTimes_4 at h
      refine r_iload_n (pc := 4) C 3 dX9_allTimes_4 rfl ?_
      refine r_bipush (pc := 5) (v := 6) C dX9_allTimes_5 (by decide) ?_
      refine r_icmp_ge (pc := 7) (tgt := 26) C dX9_allTimes_7 (by decide) (fun c1 => ?_) (fun c1 => ?_)
      · have h := h.1 c1
        refine r_iload_n (pc := 26) C 2 dX9_allTimes_26 rfl ?_
        exact r_iret (pc := 27) C dX9_allTimes_27 h
      · have h := h.2 c1
        refine r_iload_n (pc := 10) C 2 dX9_allTimes_10 rfl ?_
        refine r_aload_n (pc := 11) C 0 dX9_allTimes_11 rfl ?_
        refine r_iconst (pc := 12) (v := 0) C dX9_allTimes_12 (by decide) ?_
        refine r_iload_n (pc := 13) C 1 dX9_allTimes_13 rfl ?_
        refine r_iload_n (pc := 14) C 3 dX9_allTimes_14 rfl ?_
        have hM := c_X9_timesOf X  M 0 x1 x3 _ h
        refine q_s0 (s1 := List.reverse [.int 0, .int x1, .int x3] ++ .ref (ad X 85) :: [.int x2]) rfl ?_
        refine r_callVi (pc := 15) (k := 85) (As := [.int 0, .int x1, .int x3]) (st := [.int x2]) C 3 (by decide) (ce85 _) rfl aw529 aw530 hM aw528 aw531 aw5 yd_X9_timesOf ⟨rfl, rfl⟩ ⟨Nat.le_of_ble_eq_true rfl, Nat.le_of_ble_eq_true rfl⟩ rfl (Nat.le_of_ble_eq_true rfl) dX9_allTimes_15 (fun r3 M2 h => ?_)
        refine r_iadd (pc := 18) C dX9_allTimes_18 ?_
        refine r_topi (fun v4 ev4 => ?_)
        replace h := h v4 ev4
        refine r_istore_n (pc := 19) (lv2 := [(2, .int v4), (0, .ref (ad X 85)), (1, .int x1), (3, .int x3)]) C dX9_allTimes_19 (by decide) rfl ?_
        obtain ⟨v5, ev5⟩ : ∃ z : Int32, z = x3 + 1 := ⟨_, rfl⟩
        replace h := h v5 ev5
        refine r_iinc (pc := 20) (v := v5) (lv2 := [(3, .int v5), (2, .int v4), (0, .ref (ad X 85)), (1, .int x1)]) C 3 dX9_allTimes_20 rfl (by rw [ev5]; rfl) (by decide) rfl ?_
        refine r_goto (pc := 23) (tgt := 4) C dX9_allTimes_23 (by decide) ?_
        refine r_sub (lv2 := [(0, .ref (ad X 85)), (1, .int x1), (2, .int v4), (3, .int v5)]) [2, 3, 1, 0] rfl ?_
        exact ih _ _ _ _ h
  unfold w_X9_allTimes at h
  refine r_iconst (pc := 0) (v := 0) C dX9_allTimes_0 (by decide) ?_
  refine r_istore_n (pc := 1) (lv2 := [(2, .int 0), (0, .ref (ad X 85)), (1, .int x1)]) C dX9_allTimes_1 (by decide) rfl ?_
  refine r_iconst (pc := 2) (v := 0) C dX9_allTimes_2 (by decide) ?_
  refine r_istore_n (pc := 3) (lv2 := [(3, .int 0), (2, .int 0), (0, .ref (ad X 85)), (1, .int x1)]) C dX9_allTimes_3 (by decide) rfl ?_
  obtain ⟨n1, h⟩ := h
  refine r_sub (lv2 := [(0, .ref (ad X 85)), (1, .int x1), (2, .int 0), (3, .int 0)]) [2, 3, 1, 0] rfl ?_
  exact hL4  _ _ _ _ _ h
theorem yd_X9_person : yX9_person.cls ≠ "java/lang/invoke/MethodHandle" ∧ yX9_person.cls ≠ "java/lang/invoke/VarHandle" ∧ (parseMethodDescriptor yX9_person.desc).map (fun d => d.parameters.length) = some 2 := by decide +kernel
def w_X9_person  (M : Mem) (x1 : Int32) (x2 : Int32) (Q : Int32 → Mem → Prop) : Prop :=
  w_X9_isPerson  M x1 (fun r2 M1 => ((¬ r2 = 0) → ((x2 = 0 → (∀ v5 : Int32, v5 = (24 + x1) → (vp_in v5 3528 ∧ (Q (M1 86 (Int32.toNatClampNeg v5)) M1)))) ∧ (x2 = 1 → (∀ v8 : Int32, v8 = (30 + x1) → (vp_in v8 3528 ∧ (Q (M1 86 (Int32.toNatClampNeg v8)) M1)))) ∧ (x2 = 2 → (∀ v11 : Int32, v11 = (36 + x1) → (vp_in v11 3528 ∧ (Q (M1 86 (Int32.toNatClampNeg v11)) M1)))) ∧ (x2 = 3 → (w_X9_allTimes  M1 x1 (fun r15 M14 => Q r15 M14))) ∧ (x2 = 4 → (∀ v17 : Int32, v17 = (42 + x1) → (vp_in v17 3528 ∧ (Q (M1 86 (Int32.toNatClampNeg v17)) M1)))) ∧ (x2 = 5 → (∀ v20 : Int32, v20 = (48 + x1) → (vp_in v20 3528 ∧ (Q (M1 86 (Int32.toNatClampNeg v20)) M1)))) ∧ (¬ x2 = 0 → ¬ x2 = 1 → ¬ x2 = 2 → ¬ x2 = 3 → ¬ x2 = 4 → ¬ x2 = 5 → (Q (-1000001) M1)))) ∧ ((r2 = 0) → (Q (-1000001) M1)))
abbrev rm_X9_person : Room := { frames := 9, cells := 0, slots := 0, locals := 180 }
set_option maxHeartbeats 4000000 in
set_option maxRecDepth 100000 in
theorem c_X9_person (X : Cx)  (M : Mem) (x1 : Int32) (x2 : Int32) (Q : Int32 → Mem → Prop) (h : w_X9_person  M x1 x2 Q) : Ct yX9_person cX9_person 3 (some .int) rm_X9_person X M [.ref (ad X 85), .int x1, .int x2] (Qi X Q) := by
  refine ct_of (own := RX9) (lv := [(0, .ref (ad X 85)), (1, .int x1), (2, .int x2)]) rfl (by decide) (Nat.le_of_ble_eq_true rfl) rfl ?_
  intro K C
  unfold w_X9_person at h
  refine r_aload_n (pc := 0) C 0 dX9_person_0 rfl ?_
  refine r_iload_n (pc := 1) C 1 dX9_person_1 rfl ?_
  have hM := c_X9_isPerson X  M x1 _ h
  refine q_s0 (s1 := List.reverse [.int x1] ++ .ref (ad X 85) :: []) rfl ?_
  refine r_callVi (pc := 2) (k := 85) (As := [.int x1]) (st := []) C 1 (by decide) (ce85 _) rfl aw484 aw485 hM aw483 aw486 aw5 yd_X9_isPerson ⟨rfl, rfl⟩ ⟨Nat.le_of_ble_eq_true rfl, Nat.le_of_ble_eq_true rfl⟩ rfl (Nat.le_of_ble_eq_true rfl) dX9_person_2 (fun r2 M1 h => ?_)
  refine r_if_ne (pc := 5) (tgt := 11) C dX9_person_5 (by decide) (fun c3 => ?_) (fun c3 => ?_)
  · have h := h.1 c3
    refine r_iload_n (pc := 11) C 2 dX9_person_11 rfl ?_
    by_cases e4 : x2 = 0
    · have h := h.1 e4
      refine r_tabIn (pc := 12) (off := 40) (tgt := 52) C 0 e4 dX9_person_12 (by decide) (by decide) (by decide) (by decide) ?_
      refine r_aload_n (pc := 52) C 0 dX9_person_52 rfl ?_
      refine r_get (pc := 53) (k := 85) (j := 0) (Cn := RX9) (T := TX9) (N := 21) C (by decide) (ce85 _) rfl iaX9 (by decide) aw103 rfl rfl dX9_person_53 ?_
      refine r_bipush (pc := 56) (v := 24) C dX9_person_56 (by decide) ?_
      refine r_iload_n (pc := 58) C 1 dX9_person_58 rfl ?_
      refine r_iadd (pc := 59) C dX9_person_59 ?_
      refine r_topi (fun v5 ev5 => ?_)
      replace h := h v5 ev5
      obtain ⟨g6, h⟩ := h
      refine q_iald (pc := 60) (k := 86) (n := 3528) (j := (Int32.toNatClampNeg v5)) C (by decide) (ce86 _) g6 rfl dX9_person_60 ?_
      exact r_iret (pc := 61) C dX9_person_61 h
    · skip
      by_cases e7 : x2 = 1
      · have h := h.2.1 e7
        refine r_tabIn (pc := 12) (off := 50) (tgt := 62) C 1 e7 dX9_person_12 (by decide) (by decide) (by decide) (by decide) ?_
        refine r_aload_n (pc := 62) C 0 dX9_person_62 rfl ?_
        refine r_get (pc := 63) (k := 85) (j := 0) (Cn := RX9) (T := TX9) (N := 21) C (by decide) (ce85 _) rfl iaX9 (by decide) aw103 rfl rfl dX9_person_63 ?_
        refine r_bipush (pc := 66) (v := 30) C dX9_person_66 (by decide) ?_
        refine r_iload_n (pc := 68) C 1 dX9_person_68 rfl ?_
        refine r_iadd (pc := 69) C dX9_person_69 ?_
        refine r_topi (fun v8 ev8 => ?_)
        replace h := h v8 ev8
        obtain ⟨g9, h⟩ := h
        refine q_iald (pc := 70) (k := 86) (n := 3528) (j := (Int32.toNatClampNeg v8)) C (by decide) (ce86 _) g9 rfl dX9_person_70 ?_
        exact r_iret (pc := 71) C dX9_person_71 h
      · skip
        by_cases e10 : x2 = 2
        · have h := h.2.2.1 e10
          refine r_tabIn (pc := 12) (off := 60) (tgt := 72) C 2 e10 dX9_person_12 (by decide) (by decide) (by decide) (by decide) ?_
          refine r_aload_n (pc := 72) C 0 dX9_person_72 rfl ?_
          refine r_get (pc := 73) (k := 85) (j := 0) (Cn := RX9) (T := TX9) (N := 21) C (by decide) (ce85 _) rfl iaX9 (by decide) aw103 rfl rfl dX9_person_73 ?_
          refine r_bipush (pc := 76) (v := 36) C dX9_person_76 (by decide) ?_
          refine r_iload_n (pc := 78) C 1 dX9_person_78 rfl ?_
          refine r_iadd (pc := 79) C dX9_person_79 ?_
          refine r_topi (fun v11 ev11 => ?_)
          replace h := h v11 ev11
          obtain ⟨g12, h⟩ := h
          refine q_iald (pc := 80) (k := 86) (n := 3528) (j := (Int32.toNatClampNeg v11)) C (by decide) (ce86 _) g12 rfl dX9_person_80 ?_
          exact r_iret (pc := 81) C dX9_person_81 h
        · skip
          by_cases e13 : x2 = 3
          · have h := h.2.2.2.1 e13
            refine r_tabIn (pc := 12) (off := 70) (tgt := 82) C 3 e13 dX9_person_12 (by decide) (by decide) (by decide) (by decide) ?_
            refine r_aload_n (pc := 82) C 0 dX9_person_82 rfl ?_
            refine r_iload_n (pc := 83) C 1 dX9_person_83 rfl ?_
            have hM := c_X9_allTimes X  M1 x1 _ h
            refine q_s0 (s1 := List.reverse [.int x1] ++ .ref (ad X 85) :: []) rfl ?_
            refine r_callVi (pc := 84) (k := 85) (As := [.int x1]) (st := []) C 1 (by decide) (ce85 _) rfl aw591 aw592 hM aw590 aw593 aw5 yd_X9_allTimes ⟨rfl, rfl⟩ ⟨Nat.le_of_ble_eq_true rfl, Nat.le_of_ble_eq_true rfl⟩ rfl (Nat.le_of_ble_eq_true rfl) dX9_person_84 (fun r15 M14 h => ?_)
            exact r_iret (pc := 87) C dX9_person_87 h
          · skip
            by_cases e16 : x2 = 4
            · have h := h.2.2.2.2.1 e16
              refine r_tabIn (pc := 12) (off := 76) (tgt := 88) C 4 e16 dX9_person_12 (by decide) (by decide) (by decide) (by decide) ?_
              refine r_aload_n (pc := 88) C 0 dX9_person_88 rfl ?_
              refine r_get (pc := 89) (k := 85) (j := 0) (Cn := RX9) (T := TX9) (N := 21) C (by decide) (ce85 _) rfl iaX9 (by decide) aw103 rfl rfl dX9_person_89 ?_
              refine r_bipush (pc := 92) (v := 42) C dX9_person_92 (by decide) ?_
              refine r_iload_n (pc := 94) C 1 dX9_person_94 rfl ?_
              refine r_iadd (pc := 95) C dX9_person_95 ?_
              refine r_topi (fun v17 ev17 => ?_)
              replace h := h v17 ev17
              obtain ⟨g18, h⟩ := h
              refine q_iald (pc := 96) (k := 86) (n := 3528) (j := (Int32.toNatClampNeg v17)) C (by decide) (ce86 _) g18 rfl dX9_person_96 ?_
              exact r_iret (pc := 97) C dX9_person_97 h
            · skip
              by_cases e19 : x2 = 5
              · have h := h.2.2.2.2.2.1 e19
                refine r_tabIn (pc := 12) (off := 86) (tgt := 98) C 5 e19 dX9_person_12 (by decide) (by decide) (by decide) (by decide) ?_
                refine r_aload_n (pc := 98) C 0 dX9_person_98 rfl ?_
                refine r_get (pc := 99) (k := 85) (j := 0) (Cn := RX9) (T := TX9) (N := 21) C (by decide) (ce85 _) rfl iaX9 (by decide) aw103 rfl rfl dX9_person_99 ?_
                refine r_bipush (pc := 102) (v := 48) C dX9_person_102 (by decide) ?_
                refine r_iload_n (pc := 104) C 1 dX9_person_104 rfl ?_
                refine r_iadd (pc := 105) C dX9_person_105 ?_
                refine r_topi (fun v20 ev20 => ?_)
                replace h := h v20 ev20
                obtain ⟨g21, h⟩ := h
                refine q_iald (pc := 106) (k := 86) (n := 3528) (j := (Int32.toNatClampNeg v20)) C (by decide) (ce86 _) g21 rfl dX9_person_106 ?_
                exact r_iret (pc := 107) C dX9_person_107 h
              · skip
                have h := h.2.2.2.2.2.2 e4 e7 e10 e13 e16 e19
                refine r_tabOut (pc := 12) (tgt := 108) C dX9_person_12 (by have ke4 := ne_toInt (n := 0) e4 (by decide); have ke7 := ne_toInt (n := 1) e7 (by decide); have ke10 := ne_toInt (n := 2) e10 (by decide); have ke13 := ne_toInt (n := 3) e13 (by decide); have ke16 := ne_toInt (n := 4) e16 (by decide); have ke19 := ne_toInt (n := 5) e19 (by decide); omega) (by decide) ?_
                refine r_ldc (pc := 108) C aw142 dX9_person_108 ?_
                exact r_iret (pc := 110) C dX9_person_110 h
  · have h := h.2 c3
    refine r_ldc (pc := 8) C aw142 dX9_person_8 ?_
    exact r_iret (pc := 10) C dX9_person_10 h
theorem yd_X9_gone : yX9_gone.cls ≠ "java/lang/invoke/MethodHandle" ∧ yX9_gone.cls ≠ "java/lang/invoke/VarHandle" ∧ (parseMethodDescriptor yX9_gone.desc).map (fun d => d.parameters.length) = some 1 := by decide +kernel
def wB_X9_gone_4  (Q : Int32 → Mem → Prop)  (R4 : Mem → Int32 → Int32 → Int32 → Prop) (M : Mem) (x1 : Int32) (x2 : Int32) (x3 : Int32) : Prop :=
  (((M 86 3) ≤ x3) → (Q x2 M)) ∧ ((¬ (M 86 3) ≤ x3) → (w_X9_timesOf  M 0 x3 x1 (fun r3 M2 => ((r3 ≤ 0) → (∀ v5 : Int32, v5 = (x2 ||| 0) → (∀ v6 : Int32, v6 = x3 + 1 → (R4 M2 x1 v5 v6)))) ∧ ((¬ r3 ≤ 0) → (∀ v7 : Int32, v7 = (x2 ||| (1 <<< (x3 &&& 31))) → (∀ v8 : Int32, v8 = x3 + 1 → (R4 M2 x1 v7 v8)))))))
def wL_X9_gone_4  (Q : Int32 → Mem → Prop)  : Nat → Mem → Int32 → Int32 → Int32 → Prop
  | 0 => fun _ _ _ _ => False
  | n + 1 => fun M x1 x2 x3 => wB_X9_gone_4  Q  (wL_X9_gone_4  Q  n) M x1 x2 x3
theorem wL_X9_gone_4_s  {Q : Int32 → Mem → Prop}  {n : Nat} {M : Mem} {x1 : Int32} {x2 : Int32} {x3 : Int32} (h : wL_X9_gone_4  Q  (n + 1) M x1 x2 x3) : wB_X9_gone_4  Q  (wL_X9_gone_4  Q  n) M x1 x2 x3 := h
def w_X9_gone  (M : Mem) (x1 : Int32) (Q : Int32 → Mem → Prop) : Prop :=
  ∃ n1 : Nat, wL_X9_gone_4  Q  n1 M x1 0 0
abbrev rm_X9_gone : Room := { frames := 6, cells := 0, slots := 0, locals := 120 }
set_option maxHeartbeats 4000000 in
set_option maxRecDepth 100000 in
theorem c_X9_gone (X : Cx)  (M : Mem) (x1 : Int32) (Q : Int32 → Mem → Prop) (h : w_X9_gone  M x1 Q) : Ct yX9_gone cX9_gone 4 (some .int) rm_X9_gone X M [.ref (ad X 85), .int x1] (Qi X Q) := by
  refine ct_of (own := RX9) (lv := [(0, .ref (ad X 85)), (1, .int x1)]) rfl (by decide) (Nat.le_of_ble_eq_true rfl) rfl ?_
  intro K C
  have hL4 : ∀  (n : Nat) (M : Mem) (x1 : Int32) (x2 : Int32) (x3 : Int32), wL_X9_gone_4  Q  n M x1 x2 x3 → WX K X 4 (Qi X Q) M 4 [(0, .ref (ad X 85)), (1, .int x1), (2, .int x2), (3, .int x3)] [] := by
    intro  n
    induction n with
    | zero => intro M x1 x2 x3 h; exact absurd h id
    | succ n ih =>
      intro M x1 x2 x3 h
      replace h := wL_X9_gone_4_s h
      unfold wB_X9_gone_4 at h
      refine r_iload_n (pc := 4) C 3 dX9_gone_4 rfl ?_
      refine r_aload_n (pc := 5) C 0 dX9_gone_5 rfl ?_
      refine r_get (pc := 6) (k := 85) (j := 0) (Cn := RX9) (T := TX9) (N := 21) C (by decide) (ce85 _) rfl iaX9 (by decide) aw103 rfl rfl dX9_gone_6 ?_
      refine r_iconst (pc := 9) (v := 3) C dX9_gone_9 (by decide) ?_
      refine q_iald (pc := 10) (k := 86) (n := 3528) (j := 3) C (by decide) (ce86 _) (in_lit (by decide)) (by decide) dX9_gone_10 ?_
      refine r_icmp_ge (pc := 11) (tgt := 40) C dX9_gone_11 (by decide) (fun c1 => ?_) (fun c1 => ?_)
      · have h := h.1 c1
        refine r_iload_n (pc := 40) C 2 dX9_gone_40 rfl ?_
        exact r_iret (pc := 41) C dX9_gone_41 h
      · have h := h.2 c1
        refine r_iload_n (pc := 14) C 2 dX9_gone_14 rfl ?_
        refine r_aload_n (pc := 15) C 0 dX9_gone_15 rfl ?_
        refine r_iconst (pc := 16) (v := 0) C dX9_gone_16 (by decide) ?_
        refine r_iload_n (pc := 17) C 3 dX9_gone_17 rfl ?_
        refine r_iload_n (pc := 18) C 1 dX9_gone_18 rfl ?_
        have hM := c_X9_timesOf X  M 0 x3 x1 _ h
        refine q_s0 (s1 := List.reverse [.int 0, .int x3, .int x1] ++ .ref (ad X 85) :: [.int x2]) rfl ?_
        refine r_callVi (pc := 19) (k := 85) (As := [.int 0, .int x3, .int x1]) (st := [.int x2]) C 3 (by decide) (ce85 _) rfl aw529 aw530 hM aw528 aw531 aw5 yd_X9_timesOf ⟨rfl, rfl⟩ ⟨Nat.le_of_ble_eq_true rfl, Nat.le_of_ble_eq_true rfl⟩ rfl (Nat.le_of_ble_eq_true rfl) dX9_gone_19 (fun r3 M2 h => ?_)
        refine r_if_le (pc := 22) (tgt := 31) C dX9_gone_22 (by decide) (fun c4 => ?_) (fun c4 => ?_)
        · have h := h.1 c4
          refine r_iconst (pc := 31) (v := 0) C dX9_gone_31 (by decide) ?_
          refine r_ior (pc := 32) C dX9_gone_32 ?_
          refine r_topi (fun v5 ev5 => ?_)
          replace h := h v5 ev5
          refine r_istore_n (pc := 33) (lv2 := [(2, .int v5), (0, .ref (ad X 85)), (1, .int x1), (3, .int x3)]) C dX9_gone_33 (by decide) rfl ?_
          obtain ⟨v6, ev6⟩ : ∃ z : Int32, z = x3 + 1 := ⟨_, rfl⟩
          replace h := h v6 ev6
          refine r_iinc (pc := 34) (v := v6) (lv2 := [(3, .int v6), (2, .int v5), (0, .ref (ad X 85)), (1, .int x1)]) C 3 dX9_gone_34 rfl (by rw [ev6]; rfl) (by decide) rfl ?_
          refine r_goto (pc := 37) (tgt := 4) C dX9_gone_37 (by decide) ?_
          refine r_sub (lv2 := [(0, .ref (ad X 85)), (1, .int x1), (2, .int v5), (3, .int v6)]) [2, 3, 1, 0] rfl ?_
          exact ih _ _ _ _ h
        · have h := h.2 c4
          refine r_iconst (pc := 25) (v := 1) C dX9_gone_25 (by decide) ?_
          refine r_iload_n (pc := 26) C 3 dX9_gone_26 rfl ?_
          refine r_ishl (pc := 27) C dX9_gone_27 ?_
          refine r_goto (pc := 28) (tgt := 32) C dX9_gone_28 (by decide) ?_
          refine r_ior (pc := 32) C dX9_gone_32 ?_
          refine r_topi (fun v7 ev7 => ?_)
          replace h := h v7 ev7
          refine r_istore_n (pc := 33) (lv2 := [(2, .int v7), (0, .ref (ad X 85)), (1, .int x1), (3, .int x3)]) C dX9_gone_33 (by decide) rfl ?_
          obtain ⟨v8, ev8⟩ : ∃ z : Int32, z = x3 + 1 := ⟨_, rfl⟩
          replace h := h v8 ev8
          refine r_iinc (pc := 34) (v := v8) (lv2 := [(3, .int v8), (2, .int v7), (0, .ref (ad X 85)), (1, .int x1)]) C 3 dX9_gone_34 rfl (by rw [ev8]; rfl) (by decide) rfl ?_
          refine r_goto (pc := 37) (tgt := 4) C dX9_gone_37 (by decide) ?_
          refine r_sub (lv2 := [(0, .ref (ad X 85)), (1, .int x1), (2, .int v7), (3, .int v8)]) [2, 3, 1, 0] rfl ?_
          exact ih _ _ _ _ h
  unfold w_X9_gone at h
  refine r_iconst (pc := 0) (v := 0) C dX9_gone_0 (by decide) ?_
  refine r_istore_n (pc := 1) (lv2 := [(2, .int 0), (0, .ref (ad X 85)), (1, .int x1)]) C dX9_gone_1 (by decide) rfl ?_
  refine r_iconst (pc := 2) (v := 0) C dX9_gone_2 (by decide) ?_
  refine r_istore_n (pc := 3) (lv2 := [(3, .int 0), (2, .int 0), (0, .ref (ad X 85)), (1, .int x1)]) C dX9_gone_3 (by decide) rfl ?_
  obtain ⟨n1, h⟩ := h
  refine r_sub (lv2 := [(0, .ref (ad X 85)), (1, .int x1), (2, .int 0), (3, .int 0)]) [2, 3, 1, 0] rfl ?_
  exact hL4  _ _ _ _ _ h
theorem yd_X9_door : yX9_door.cls ≠ "java/lang/invoke/MethodHandle" ∧ yX9_door.cls ≠ "java/lang/invoke/VarHandle" ∧ (parseMethodDescriptor yX9_door.desc).map (fun d => d.parameters.length) = some 2 := by decide +kernel
def w_X9_door  (M : Mem) (x1 : Int32) (x2 : Int32) (Q : Int32 → Mem → Prop) : Prop :=
  w_X9_isDoor  M x1 (fun r2 M1 => ((¬ r2 = 0) → (((x2 = 0) → (w_X9_endOf  M1 0 x1 x2 (fun r6 M5 => Q r6 M5))) ∧ ((¬ x2 = 0) → (((¬ x2 = 1) → (((¬ x2 = 2) → (Q (-1000001) M1)) ∧ ((x2 = 2) → (w_X9_gone  M1 x1 (fun r10 M9 => Q r10 M9))))) ∧ ((x2 = 1) → (w_X9_endOf  M1 0 x1 x2 (fun r12 M11 => Q r12 M11))))))) ∧ ((r2 = 0) → (Q (-1000001) M1)))
abbrev rm_X9_door : Room := { frames := 9, cells := 0, slots := 0, locals := 180 }
set_option maxHeartbeats 4000000 in
set_option maxRecDepth 100000 in
theorem c_X9_door (X : Cx)  (M : Mem) (x1 : Int32) (x2 : Int32) (Q : Int32 → Mem → Prop) (h : w_X9_door  M x1 x2 Q) : Ct yX9_door cX9_door 3 (some .int) rm_X9_door X M [.ref (ad X 85), .int x1, .int x2] (Qi X Q) := by
  refine ct_of (own := RX9) (lv := [(0, .ref (ad X 85)), (1, .int x1), (2, .int x2)]) rfl (by decide) (Nat.le_of_ble_eq_true rfl) rfl ?_
  intro K C
  unfold w_X9_door at h
  refine r_aload_n (pc := 0) C 0 dX9_door_0 rfl ?_
  refine r_iload_n (pc := 1) C 1 dX9_door_1 rfl ?_
  have hM := c_X9_isDoor X  M x1 _ h
  refine q_s0 (s1 := List.reverse [.int x1] ++ .ref (ad X 85) :: []) rfl ?_
  refine r_callVi (pc := 2) (k := 85) (As := [.int x1]) (st := []) C 1 (by decide) (ce85 _) rfl aw488 aw489 hM aw487 aw490 aw5 yd_X9_isDoor ⟨rfl, rfl⟩ ⟨Nat.le_of_ble_eq_true rfl, Nat.le_of_ble_eq_true rfl⟩ rfl (Nat.le_of_ble_eq_true rfl) dX9_door_2 (fun r2 M1 h => ?_)
  refine r_if_ne (pc := 5) (tgt := 13) C dX9_door_5 (by decide) (fun c3 => ?_) (fun c3 => ?_)
  · have h := h.1 c3
    refine r_iload_n (pc := 13) C 2 dX9_door_13 rfl ?_
    refine r_if_eq (pc := 14) (tgt := 22) C dX9_door_14 (by decide) (fun c4 => ?_) (fun c4 => ?_)
    · have h := h.1 c4
      refine r_aload_n (pc := 22) C 0 dX9_door_22 rfl ?_
      refine r_iconst (pc := 23) (v := 0) C dX9_door_23 (by decide) ?_
      refine r_iload_n (pc := 24) C 1 dX9_door_24 rfl ?_
      refine r_iload_n (pc := 25) C 2 dX9_door_25 rfl ?_
      have hM := c_X9_endOf X  M1 0 x1 x2 _ h
      refine q_s0 (s1 := List.reverse [.int 0, .int x1, .int x2] ++ .ref (ad X 85) :: []) rfl ?_
      refine r_callVi (pc := 26) (k := 85) (As := [.int 0, .int x1, .int x2]) (st := []) C 3 (by decide) (ce85 _) rfl aw496 aw497 hM aw495 aw498 aw5 yd_X9_endOf ⟨rfl, rfl⟩ ⟨Nat.le_of_ble_eq_true rfl, Nat.le_of_ble_eq_true rfl⟩ rfl (Nat.le_of_ble_eq_true rfl) dX9_door_26 (fun r6 M5 h => ?_)
      refine r_goto (pc := 29) (tgt := 47) C dX9_door_29 (by decide) ?_
      exact r_iret (pc := 47) C dX9_door_47 h
    · have h := h.2 c4
      refine r_iload_n (pc := 17) C 2 dX9_door_17 rfl ?_
      refine r_iconst (pc := 18) (v := 1) C dX9_door_18 (by decide) ?_
      refine r_icmp_ne (pc := 19) (tgt := 32) C dX9_door_19 (by decide) (fun c7 => ?_) (fun c7 => ?_)
      · have h := h.1 c7
        refine r_iload_n (pc := 32) C 2 dX9_door_32 rfl ?_
        refine r_iconst (pc := 33) (v := 2) C dX9_door_33 (by decide) ?_
        refine r_icmp_ne (pc := 34) (tgt := 45) C dX9_door_34 (by decide) (fun c8 => ?_) (fun c8 => ?_)
        · have h := h.1 c8
          refine r_ldc (pc := 45) C aw142 dX9_door_45 ?_
          exact r_iret (pc := 47) C dX9_door_47 h
        · have h := h.2 c8
          refine r_aload_n (pc := 37) C 0 dX9_door_37 rfl ?_
          refine r_iload_n (pc := 38) C 1 dX9_door_38 rfl ?_
          have hM := c_X9_gone X  M1 x1 _ h
          refine q_s0 (s1 := List.reverse [.int x1] ++ .ref (ad X 85) :: []) rfl ?_
          refine r_callVi (pc := 39) (k := 85) (As := [.int x1]) (st := []) C 1 (by decide) (ce85 _) rfl aw606 aw607 hM aw605 aw608 aw5 yd_X9_gone ⟨rfl, rfl⟩ ⟨Nat.le_of_ble_eq_true rfl, Nat.le_of_ble_eq_true rfl⟩ rfl (Nat.le_of_ble_eq_true rfl) dX9_door_39 (fun r10 M9 h => ?_)
          refine r_goto (pc := 42) (tgt := 47) C dX9_door_42 (by decide) ?_
          exact r_iret (pc := 47) C dX9_door_47 h
      · have h := h.2 c7
        refine r_aload_n (pc := 22) C 0 dX9_door_22 rfl ?_
        refine r_iconst (pc := 23) (v := 0) C dX9_door_23 (by decide) ?_
        refine r_iload_n (pc := 24) C 1 dX9_door_24 rfl ?_
        refine r_iload_n (pc := 25) C 2 dX9_door_25 rfl ?_
        have hM := c_X9_endOf X  M1 0 x1 x2 _ h
        refine q_s0 (s1 := List.reverse [.int 0, .int x1, .int x2] ++ .ref (ad X 85) :: []) rfl ?_
        refine r_callVi (pc := 26) (k := 85) (As := [.int 0, .int x1, .int x2]) (st := []) C 3 (by decide) (ce85 _) rfl aw496 aw497 hM aw495 aw498 aw5 yd_X9_endOf ⟨rfl, rfl⟩ ⟨Nat.le_of_ble_eq_true rfl, Nat.le_of_ble_eq_true rfl⟩ rfl (Nat.le_of_ble_eq_true rfl) dX9_door_26 (fun r12 M11 h => ?_)
        refine r_goto (pc := 29) (tgt := 47) C dX9_door_29 (by decide) ?_
        exact r_iret (pc := 47) C dX9_door_47 h
  · have h := h.2 c3
    refine r_ldc (pc := 8) C aw142 dX9_door_8 ?_
    refine r_goto (pc := 10) (tgt := 47) C dX9_door_10 (by decide) ?_
    exact r_iret (pc := 47) C dX9_door_47 h
theorem yd_X9_at : yX9_at.cls ≠ "java/lang/invoke/MethodHandle" ∧ yX9_at.cls ≠ "java/lang/invoke/VarHandle" ∧ (parseMethodDescriptor yX9_at.desc).map (fun d => d.parameters.length) = some 3 := by decide +kernel
def w_X9_at  (M : Mem) (x1 : Int32) (x2 : Int32) (x3 : Int32) (Q : Int32 → Mem → Prop) : Prop :=
  w_X9_isPerson  M x1 (fun r2 M1 => ((r2 = 0) → (Q (-1000001) M1)) ∧ ((¬ r2 = 0) → (w_X9_isDoor  M1 x2 (fun r5 M4 => ((¬ r5 = 0) → ((x3 = 0 → (w_X9_timesOf  M4 0 x1 x2 (fun r9 M8 => Q r9 M8))) ∧ (x3 = 1 → (∀ v11 : Int32, v11 = ((90 + (6 * x1)) + x2) → (vp_in v11 3528 ∧ (Q (M4 86 (Int32.toNatClampNeg v11)) M4)))) ∧ (x3 = 2 → (w_X9_freshOf  M4 0 x1 x2 (fun r15 M14 => Q r15 M14))) ∧ (x3 = 3 → (w_X9_weightOf  M4 0 x1 x2 (fun r18 M17 => Q r18 M17))) ∧ (x3 = 4 → (w_X9_opens  M4 0 x1 x2 (fun r21 M20 => ((r21 = 0) → (Q 0 M20)) ∧ ((¬ r21 = 0) → (Q 1 M20))))) ∧ (x3 = 5 → (w_X9_weights  M4 0 x1 x2 1 (fun r25 M24 => Q r25 M24))) ∧ (x3 = 6 → (w_X9_weights  M4 0 x1 x2 (-1) (fun r28 M27 => Q r28 M27))) ∧ (¬ x3 = 0 → ¬ x3 = 1 → ¬ x3 = 2 → ¬ x3 = 3 → ¬ x3 = 4 → ¬ x3 = 5 → ¬ x3 = 6 → (Q (-1000001) M4)))) ∧ ((r5 = 0) → (Q (-1000001) M4))))))
abbrev rm_X9_at : Room := { frames := 18, cells := 0, slots := 0, locals := 360 }
set_option maxHeartbeats 4000000 in
set_option maxRecDepth 100000 in
theorem c_X9_at (X : Cx)  (M : Mem) (x1 : Int32) (x2 : Int32) (x3 : Int32) (Q : Int32 → Mem → Prop) (h : w_X9_at  M x1 x2 x3 Q) : Ct yX9_at cX9_at 4 (some .int) rm_X9_at X M [.ref (ad X 85), .int x1, .int x2, .int x3] (Qi X Q) := by
  refine ct_of (own := RX9) (lv := [(0, .ref (ad X 85)), (1, .int x1), (2, .int x2), (3, .int x3)]) rfl (by decide) (Nat.le_of_ble_eq_true rfl) rfl ?_
  intro K C
  unfold w_X9_at at h
  refine r_aload_n (pc := 0) C 0 dX9_at_0 rfl ?_
  refine r_iload_n (pc := 1) C 1 dX9_at_1 rfl ?_
  have hM := c_X9_isPerson X  M x1 _ h
  refine q_s0 (s1 := List.reverse [.int x1] ++ .ref (ad X 85) :: []) rfl ?_
  refine r_callVi (pc := 2) (k := 85) (As := [.int x1]) (st := []) C 1 (by decide) (ce85 _) rfl aw484 aw485 hM aw483 aw486 aw5 yd_X9_isPerson ⟨rfl, rfl⟩ ⟨Nat.le_of_ble_eq_true rfl, Nat.le_of_ble_eq_true rfl⟩ rfl (Nat.le_of_ble_eq_true rfl) dX9_at_2 (fun r2 M1 h => ?_)
  refine r_if_eq (pc := 5) (tgt := 16) C dX9_at_5 (by decide) (fun c3 => ?_) (fun c3 => ?_)
  · have h := h.1 c3
    refine r_ldc (pc := 16) C aw142 dX9_at_16 ?_
    exact r_iret (pc := 18) C dX9_at_18 h
  · have h := h.2 c3
    refine r_aload_n (pc := 8) C 0 dX9_at_8 rfl ?_
    refine r_iload_n (pc := 9) C 2 dX9_at_9 rfl ?_
    have hM := c_X9_isDoor X  M1 x2 _ h
    refine q_s0 (s1 := List.reverse [.int x2] ++ .ref (ad X 85) :: []) rfl ?_
    refine r_callVi (pc := 10) (k := 85) (As := [.int x2]) (st := []) C 1 (by decide) (ce85 _) rfl aw488 aw489 hM aw487 aw490 aw5 yd_X9_isDoor ⟨rfl, rfl⟩ ⟨Nat.le_of_ble_eq_true rfl, Nat.le_of_ble_eq_true rfl⟩ rfl (Nat.le_of_ble_eq_true rfl) dX9_at_10 (fun r5 M4 h => ?_)
    refine r_if_ne (pc := 13) (tgt := 19) C dX9_at_13 (by decide) (fun c6 => ?_) (fun c6 => ?_)
    · have h := h.1 c6
      refine r_iload_n (pc := 19) C 3 dX9_at_19 rfl ?_
      by_cases e7 : x3 = 0
      · have h := h.1 e7
        refine r_tabIn (pc := 20) (off := 44) (tgt := 64) C 0 e7 dX9_at_20 (by decide) (by decide) (by decide) (by decide) ?_
        refine r_aload_n (pc := 64) C 0 dX9_at_64 rfl ?_
        refine r_iconst (pc := 65) (v := 0) C dX9_at_65 (by decide) ?_
        refine r_iload_n (pc := 66) C 1 dX9_at_66 rfl ?_
        refine r_iload_n (pc := 67) C 2 dX9_at_67 rfl ?_
        have hM := c_X9_timesOf X  M4 0 x1 x2 _ h
        refine q_s0 (s1 := List.reverse [.int 0, .int x1, .int x2] ++ .ref (ad X 85) :: []) rfl ?_
        refine r_callVi (pc := 68) (k := 85) (As := [.int 0, .int x1, .int x2]) (st := []) C 3 (by decide) (ce85 _) rfl aw529 aw530 hM aw528 aw531 aw5 yd_X9_timesOf ⟨rfl, rfl⟩ ⟨Nat.le_of_ble_eq_true rfl, Nat.le_of_ble_eq_true rfl⟩ rfl (Nat.le_of_ble_eq_true rfl) dX9_at_68 (fun r9 M8 h => ?_)
        exact r_iret (pc := 71) C dX9_at_71 h
      · skip
        by_cases e10 : x3 = 1
        · have h := h.2.1 e10
          refine r_tabIn (pc := 20) (off := 52) (tgt := 72) C 1 e10 dX9_at_20 (by decide) (by decide) (by decide) (by decide) ?_
          refine r_aload_n (pc := 72) C 0 dX9_at_72 rfl ?_
          refine r_get (pc := 73) (k := 85) (j := 0) (Cn := RX9) (T := TX9) (N := 21) C (by decide) (ce85 _) rfl iaX9 (by decide) aw103 rfl rfl dX9_at_73 ?_
          refine r_bipush (pc := 76) (v := 90) C dX9_at_76 (by decide) ?_
          refine r_bipush (pc := 78) (v := 6) C dX9_at_78 (by decide) ?_
          refine r_iload_n (pc := 80) C 1 dX9_at_80 rfl ?_
          refine r_imul (pc := 81) C dX9_at_81 ?_
          refine r_iadd (pc := 82) C dX9_at_82 ?_
          refine r_iload_n (pc := 83) C 2 dX9_at_83 rfl ?_
          refine r_iadd (pc := 84) C dX9_at_84 ?_
          refine r_topi (fun v11 ev11 => ?_)
          replace h := h v11 ev11
          obtain ⟨g12, h⟩ := h
          refine q_iald (pc := 85) (k := 86) (n := 3528) (j := (Int32.toNatClampNeg v11)) C (by decide) (ce86 _) g12 rfl dX9_at_85 ?_
          exact r_iret (pc := 86) C dX9_at_86 h
        · skip
          by_cases e13 : x3 = 2
          · have h := h.2.2.1 e13
            refine r_tabIn (pc := 20) (off := 67) (tgt := 87) C 2 e13 dX9_at_20 (by decide) (by decide) (by decide) (by decide) ?_
            refine r_aload_n (pc := 87) C 0 dX9_at_87 rfl ?_
            refine r_iconst (pc := 88) (v := 0) C dX9_at_88 (by decide) ?_
            refine r_iload_n (pc := 89) C 1 dX9_at_89 rfl ?_
            refine r_iload_n (pc := 90) C 2 dX9_at_90 rfl ?_
            have hM := c_X9_freshOf X  M4 0 x1 x2 _ h
            refine q_s0 (s1 := List.reverse [.int 0, .int x1, .int x2] ++ .ref (ad X 85) :: []) rfl ?_
            refine r_callVi (pc := 91) (k := 85) (As := [.int 0, .int x1, .int x2]) (st := []) C 3 (by decide) (ce85 _) rfl aw533 aw534 hM aw532 aw535 aw5 yd_X9_freshOf ⟨rfl, rfl⟩ ⟨Nat.le_of_ble_eq_true rfl, Nat.le_of_ble_eq_true rfl⟩ rfl (Nat.le_of_ble_eq_true rfl) dX9_at_91 (fun r15 M14 h => ?_)
            exact r_iret (pc := 94) C dX9_at_94 h
          · skip
            by_cases e16 : x3 = 3
            · have h := h.2.2.2.1 e16
              refine r_tabIn (pc := 20) (off := 75) (tgt := 95) C 3 e16 dX9_at_20 (by decide) (by decide) (by decide) (by decide) ?_
              refine r_aload_n (pc := 95) C 0 dX9_at_95 rfl ?_
              refine r_iconst (pc := 96) (v := 0) C dX9_at_96 (by decide) ?_
              refine r_iload_n (pc := 97) C 1 dX9_at_97 rfl ?_
              refine r_iload_n (pc := 98) C 2 dX9_at_98 rfl ?_
              have hM := c_X9_weightOf X  M4 0 x1 x2 _ h
              refine q_s0 (s1 := List.reverse [.int 0, .int x1, .int x2] ++ .ref (ad X 85) :: []) rfl ?_
              refine r_callVi (pc := 99) (k := 85) (As := [.int 0, .int x1, .int x2]) (st := []) C 3 (by decide) (ce85 _) rfl aw525 aw526 hM aw524 aw527 aw5 yd_X9_weightOf ⟨rfl, rfl⟩ ⟨Nat.le_of_ble_eq_true rfl, Nat.le_of_ble_eq_true rfl⟩ rfl (Nat.le_of_ble_eq_true rfl) dX9_at_99 (fun r18 M17 h => ?_)
              exact r_iret (pc := 102) C dX9_at_102 h
            · skip
              by_cases e19 : x3 = 4
              · have h := h.2.2.2.2.1 e19
                refine r_tabIn (pc := 20) (off := 83) (tgt := 103) C 4 e19 dX9_at_20 (by decide) (by decide) (by decide) (by decide) ?_
                refine r_aload_n (pc := 103) C 0 dX9_at_103 rfl ?_
                refine r_iconst (pc := 104) (v := 0) C dX9_at_104 (by decide) ?_
                refine r_iload_n (pc := 105) C 1 dX9_at_105 rfl ?_
                refine r_iload_n (pc := 106) C 2 dX9_at_106 rfl ?_
                have hM := c_X9_opens X  M4 0 x1 x2 _ h
                refine q_s0 (s1 := List.reverse [.int 0, .int x1, .int x2] ++ .ref (ad X 85) :: []) rfl ?_
                refine r_callVi (pc := 107) (k := 85) (As := [.int 0, .int x1, .int x2]) (st := []) C 3 (by decide) (ce85 _) rfl aw508 aw509 hM aw507 aw510 aw5 yd_X9_opens ⟨rfl, rfl⟩ ⟨Nat.le_of_ble_eq_true rfl, Nat.le_of_ble_eq_true rfl⟩ rfl (Nat.le_of_ble_eq_true rfl) dX9_at_107 (fun r21 M20 h => ?_)
                refine r_if_eq (pc := 110) (tgt := 117) C dX9_at_110 (by decide) (fun c22 => ?_) (fun c22 => ?_)
                · have h := h.1 c22
                  refine r_iconst (pc := 117) (v := 0) C dX9_at_117 (by decide) ?_
                  exact r_iret (pc := 118) C dX9_at_118 h
                · have h := h.2 c22
                  refine r_iconst (pc := 113) (v := 1) C dX9_at_113 (by decide) ?_
                  refine r_goto (pc := 114) (tgt := 118) C dX9_at_114 (by decide) ?_
                  exact r_iret (pc := 118) C dX9_at_118 h
              · skip
                by_cases e23 : x3 = 5
                · have h := h.2.2.2.2.2.1 e23
                  refine r_tabIn (pc := 20) (off := 99) (tgt := 119) C 5 e23 dX9_at_20 (by decide) (by decide) (by decide) (by decide) ?_
                  refine r_aload_n (pc := 119) C 0 dX9_at_119 rfl ?_
                  refine r_iconst (pc := 120) (v := 0) C dX9_at_120 (by decide) ?_
                  refine r_iload_n (pc := 121) C 1 dX9_at_121 rfl ?_
                  refine r_iload_n (pc := 122) C 2 dX9_at_122 rfl ?_
                  refine r_iconst (pc := 123) (v := 1) C dX9_at_123 (by decide) ?_
                  have hM := c_X9_weights X  M4 0 x1 x2 1 _ h
                  refine q_s0 (s1 := List.reverse [.int 0, .int x1, .int x2, .int 1] ++ .ref (ad X 85) :: []) rfl ?_
                  refine r_callVi (pc := 124) (k := 85) (As := [.int 0, .int x1, .int x2, .int 1]) (st := []) C 4 (by decide) (ce85 _) rfl aw512 aw513 hM aw511 aw514 aw5 yd_X9_weights ⟨rfl, rfl⟩ ⟨Nat.le_of_ble_eq_true rfl, Nat.le_of_ble_eq_true rfl⟩ rfl (Nat.le_of_ble_eq_true rfl) dX9_at_124 (fun r25 M24 h => ?_)
                  exact r_iret (pc := 127) C dX9_at_127 h
                · skip
                  by_cases e26 : x3 = 6
                  · have h := h.2.2.2.2.2.2.1 e26
                    refine r_tabIn (pc := 20) (off := 108) (tgt := 128) C 6 e26 dX9_at_20 (by decide) (by decide) (by decide) (by decide) ?_
                    refine r_aload_n (pc := 128) C 0 dX9_at_128 rfl ?_
                    refine r_iconst (pc := 129) (v := 0) C dX9_at_129 (by decide) ?_
                    refine r_iload_n (pc := 130) C 1 dX9_at_130 rfl ?_
                    refine r_iload_n (pc := 131) C 2 dX9_at_131 rfl ?_
                    refine r_iconst (pc := 132) (v := (-1)) C dX9_at_132 (by decide) ?_
                    have hM := c_X9_weights X  M4 0 x1 x2 (-1) _ h
                    refine q_s0 (s1 := List.reverse [.int 0, .int x1, .int x2, .int (-1)] ++ .ref (ad X 85) :: []) rfl ?_
                    refine r_callVi (pc := 133) (k := 85) (As := [.int 0, .int x1, .int x2, .int (-1)]) (st := []) C 4 (by decide) (ce85 _) rfl aw512 aw513 hM aw511 aw514 aw5 yd_X9_weights ⟨rfl, rfl⟩ ⟨Nat.le_of_ble_eq_true rfl, Nat.le_of_ble_eq_true rfl⟩ rfl (Nat.le_of_ble_eq_true rfl) dX9_at_133 (fun r28 M27 h => ?_)
                    exact r_iret (pc := 136) C dX9_at_136 h
                  · skip
                    have h := h.2.2.2.2.2.2.2 e7 e10 e13 e16 e19 e23 e26
                    refine r_tabOut (pc := 20) (tgt := 137) C dX9_at_20 (by have ke7 := ne_toInt (n := 0) e7 (by decide); have ke10 := ne_toInt (n := 1) e10 (by decide); have ke13 := ne_toInt (n := 2) e13 (by decide); have ke16 := ne_toInt (n := 3) e16 (by decide); have ke19 := ne_toInt (n := 4) e19 (by decide); have ke23 := ne_toInt (n := 5) e23 (by decide); have ke26 := ne_toInt (n := 6) e26 (by decide); omega) (by decide) ?_
                    refine r_ldc (pc := 137) C aw142 dX9_at_137 ?_
                    exact r_iret (pc := 139) C dX9_at_139 h
    · have h := h.2 c6
      refine r_ldc (pc := 16) C aw142 dX9_at_16 ?_
      exact r_iret (pc := 18) C dX9_at_18 h
theorem yd_X9_favour : yX9_favour.cls ≠ "java/lang/invoke/MethodHandle" ∧ yX9_favour.cls ≠ "java/lang/invoke/VarHandle" ∧ (parseMethodDescriptor yX9_favour.desc).map (fun d => d.parameters.length) = some 2 := by decide +kernel
def w_X9_favour  (M : Mem) (x1 : Int32) (x2 : Int32) (Q : Int32 → Mem → Prop) : Prop :=
  w_X9_isPerson  M x1 (fun r2 M1 => ((r2 = 0) → (Q (-1000001) M1)) ∧ ((¬ r2 = 0) → (w_X9_isPerson  M1 x2 (fun r5 M4 => ((r5 = 0) → (Q (-1000001) M4)) ∧ ((¬ r5 = 0) → (((x1 = x2) → (Q (-1000001) M4)) ∧ ((¬ x1 = x2) → (w_X9_favourOf  M4 0 x1 x2 (fun r9 M8 => Q r9 M8)))))))))
abbrev rm_X9_favour : Room := { frames := 12, cells := 0, slots := 0, locals := 240 }
set_option maxHeartbeats 4000000 in
set_option maxRecDepth 100000 in
theorem c_X9_favour (X : Cx)  (M : Mem) (x1 : Int32) (x2 : Int32) (Q : Int32 → Mem → Prop) (h : w_X9_favour  M x1 x2 Q) : Ct yX9_favour cX9_favour 3 (some .int) rm_X9_favour X M [.ref (ad X 85), .int x1, .int x2] (Qi X Q) := by
  refine ct_of (own := RX9) (lv := [(0, .ref (ad X 85)), (1, .int x1), (2, .int x2)]) rfl (by decide) (Nat.le_of_ble_eq_true rfl) rfl ?_
  intro K C
  unfold w_X9_favour at h
  refine r_aload_n (pc := 0) C 0 dX9_favour_0 rfl ?_
  refine r_iload_n (pc := 1) C 1 dX9_favour_1 rfl ?_
  have hM := c_X9_isPerson X  M x1 _ h
  refine q_s0 (s1 := List.reverse [.int x1] ++ .ref (ad X 85) :: []) rfl ?_
  refine r_callVi (pc := 2) (k := 85) (As := [.int x1]) (st := []) C 1 (by decide) (ce85 _) rfl aw484 aw485 hM aw483 aw486 aw5 yd_X9_isPerson ⟨rfl, rfl⟩ ⟨Nat.le_of_ble_eq_true rfl, Nat.le_of_ble_eq_true rfl⟩ rfl (Nat.le_of_ble_eq_true rfl) dX9_favour_2 (fun r2 M1 h => ?_)
  refine r_if_eq (pc := 5) (tgt := 31) C dX9_favour_5 (by decide) (fun c3 => ?_) (fun c3 => ?_)
  · have h := h.1 c3
    refine r_ldc (pc := 31) C aw142 dX9_favour_31 ?_
    exact r_iret (pc := 33) C dX9_favour_33 h
  · have h := h.2 c3
    refine r_aload_n (pc := 8) C 0 dX9_favour_8 rfl ?_
    refine r_iload_n (pc := 9) C 2 dX9_favour_9 rfl ?_
    have hM := c_X9_isPerson X  M1 x2 _ h
    refine q_s0 (s1 := List.reverse [.int x2] ++ .ref (ad X 85) :: []) rfl ?_
    refine r_callVi (pc := 10) (k := 85) (As := [.int x2]) (st := []) C 1 (by decide) (ce85 _) rfl aw484 aw485 hM aw483 aw486 aw5 yd_X9_isPerson ⟨rfl, rfl⟩ ⟨Nat.le_of_ble_eq_true rfl, Nat.le_of_ble_eq_true rfl⟩ rfl (Nat.le_of_ble_eq_true rfl) dX9_favour_10 (fun r5 M4 h => ?_)
    refine r_if_eq (pc := 13) (tgt := 31) C dX9_favour_13 (by decide) (fun c6 => ?_) (fun c6 => ?_)
    · have h := h.1 c6
      refine r_ldc (pc := 31) C aw142 dX9_favour_31 ?_
      exact r_iret (pc := 33) C dX9_favour_33 h
    · have h := h.2 c6
      refine r_iload_n (pc := 16) C 1 dX9_favour_16 rfl ?_
      refine r_iload_n (pc := 17) C 2 dX9_favour_17 rfl ?_
      refine r_icmp_eq (pc := 18) (tgt := 31) C dX9_favour_18 (by decide) (fun c7 => ?_) (fun c7 => ?_)
      · have h := h.1 c7
        refine r_ldc (pc := 31) C aw142 dX9_favour_31 ?_
        exact r_iret (pc := 33) C dX9_favour_33 h
      · have h := h.2 c7
        refine r_aload_n (pc := 21) C 0 dX9_favour_21 rfl ?_
        refine r_iconst (pc := 22) (v := 0) C dX9_favour_22 (by decide) ?_
        refine r_iload_n (pc := 23) C 1 dX9_favour_23 rfl ?_
        refine r_iload_n (pc := 24) C 2 dX9_favour_24 rfl ?_
        have hM := c_X9_favourOf X  M4 0 x1 x2 _ h
        refine q_s0 (s1 := List.reverse [.int 0, .int x1, .int x2] ++ .ref (ad X 85) :: []) rfl ?_
        refine r_callVi (pc := 25) (k := 85) (As := [.int 0, .int x1, .int x2]) (st := []) C 3 (by decide) (ce85 _) rfl aw517 aw518 hM aw516 aw519 aw5 yd_X9_favourOf ⟨rfl, rfl⟩ ⟨Nat.le_of_ble_eq_true rfl, Nat.le_of_ble_eq_true rfl⟩ rfl (Nat.le_of_ble_eq_true rfl) dX9_favour_25 (fun r9 M8 h => ?_)
        refine r_goto (pc := 28) (tgt := 33) C dX9_favour_28 (by decide) ?_
        exact r_iret (pc := 33) C dX9_favour_33 h
theorem yd_X9_layOpen : yX9_layOpen.cls ≠ "java/lang/invoke/MethodHandle" ∧ yX9_layOpen.cls ≠ "java/lang/invoke/VarHandle" ∧ (parseMethodDescriptor yX9_layOpen.desc).map (fun d => d.parameters.length) = some 1 := by decide +kernel
def wB_X9_layOpen_19  (Q : Mem → Prop)  (R19 : Mem → Int32 → Int32 → Prop) (M : Mem) (x1 : Int32) (x2 : Int32) : Prop :=
  (((M 86 2) ≤ x2) → (Q M)) ∧ ((¬ (M 86 2) ≤ x2) → (w_X9_opens  M 0 x1 x2 (fun r3 M2 => ((r3 = 0) → (∀ v5 : Int32, v5 = ((M 85 16) ||| 0) → (∀ M6 : Mem, M6 = ms M2 85 16 v5 → (∀ v7 : Int32, v7 = x2 + 1 → (R19 M6 x1 v7))))) ∧ ((¬ r3 = 0) → (∀ v8 : Int32, v8 = ((M 85 16) ||| (1 <<< (x2 &&& 31))) → (∀ M9 : Mem, M9 = ms M2 85 16 v8 → (∀ v10 : Int32, v10 = x2 + 1 → (R19 M9 x1 v10))))))))
def wL_X9_layOpen_19  (Q : Mem → Prop)  : Nat → Mem → Int32 → Int32 → Prop
  | 0 => fun _ _ _ => False
  | n + 1 => fun M x1 x2 => wB_X9_layOpen_19  Q  (wL_X9_layOpen_19  Q  n) M x1 x2
theorem wL_X9_layOpen_19_s  {Q : Mem → Prop}  {n : Nat} {M : Mem} {x1 : Int32} {x2 : Int32} (h : wL_X9_layOpen_19  Q  (n + 1) M x1 x2) : wB_X9_layOpen_19  Q  (wL_X9_layOpen_19  Q  n) M x1 x2 := h
def w_X9_layOpen  (M : Mem) (x1 : Int32) (Q : Mem → Prop) : Prop :=
  ∀ M1 : Mem, M1 = ms M 85 16 0 → (∀ M2 : Mem, M2 = ms M1 85 17 (-1000000) → (∀ M3 : Mem, M3 = ms M2 85 18 (-1000000) → (∃ n4 : Nat, wL_X9_layOpen_19  Q  n4 M3 x1 0)))
abbrev rm_X9_layOpen : Room := { frames := 18, cells := 0, slots := 0, locals := 360 }
set_option maxHeartbeats 4000000 in
set_option maxRecDepth 100000 in
theorem c_X9_layOpen (X : Cx)  (M : Mem) (x1 : Int32) (Q : Mem → Prop) (h : w_X9_layOpen  M x1 Q) : Ct yX9_layOpen cX9_layOpen 3 none rm_X9_layOpen X M [.ref (ad X 85), .int x1] (Qv X Q) := by
  refine ct_of (own := RX9) (lv := [(0, .ref (ad X 85)), (1, .int x1)]) rfl (by decide) (Nat.le_of_ble_eq_true rfl) rfl ?_
  intro K C
  have hL19 : ∀  (n : Nat) (M : Mem) (x1 : Int32) (x2 : Int32), wL_X9_layOpen_19  Q  n M x1 x2 → WX K X 3 (Qv X Q) M 19 [(0, .ref (ad X 85)), (1, .int x1), (2, .int x2)] [] := by
    intro  n
    induction n with
    | zero => intro M x1 x2 h; exact absurd h id
    | succ n ih =>
      intro M x1 x2 h
      replace h := wL_X9_layOpen_19_s h
      unfold wB_X9_layOpen_19 at h
      refine r_iload_n (pc := 19) C 2 dX9_layOpen_19 rfl ?_
      refine r_aload_n (pc := 20) C 0 dX9_layOpen_20 rfl ?_
      refine r_get (pc := 21) (k := 85) (j := 0) (Cn := RX9) (T := TX9) (N := 21) C (by decide) (ce85 _) rfl iaX9 (by decide) aw103 rfl rfl dX9_layOpen_21 ?_
      refine r_iconst (pc := 24) (v := 2) C dX9_layOpen_24 (by decide) ?_
      refine q_iald (pc := 25) (k := 86) (n := 3528) (j := 2) C (by decide) (ce86 _) (in_lit (by decide)) (by decide) dX9_layOpen_25 ?_
      refine r_icmp_ge (pc := 26) (tgt := 61) C dX9_layOpen_26 (by decide) (fun c1 => ?_) (fun c1 => ?_)
      · have h := h.1 c1
        exact r_vret (pc := 61) C dX9_layOpen_61 h
      · have h := h.2 c1
        refine r_aload_n (pc := 29) C 0 dX9_layOpen_29 rfl ?_
        refine r_dup (pc := 30) C dX9_layOpen_30 rfl ?_
        refine r_get (pc := 31) (k := 85) (j := 16) (Cn := RX9) (T := TX9) (N := 21) C (by decide) (ce85 _) rfl iaX9 (by decide) aw660 rfl rfl dX9_layOpen_31 ?_
        refine r_aload_n (pc := 34) C 0 dX9_layOpen_34 rfl ?_
        refine r_iconst (pc := 35) (v := 0) C dX9_layOpen_35 (by decide) ?_
        refine r_iload_n (pc := 36) C 1 dX9_layOpen_36 rfl ?_
        refine r_iload_n (pc := 37) C 2 dX9_layOpen_37 rfl ?_
        have hM := c_X9_opens X  M 0 x1 x2 _ h
        refine q_s0 (s1 := List.reverse [.int 0, .int x1, .int x2] ++ .ref (ad X 85) :: [.int (M 85 16), .ref (ad X 85)]) rfl ?_
        refine r_callVi (pc := 38) (k := 85) (As := [.int 0, .int x1, .int x2]) (st := [.int (M 85 16), .ref (ad X 85)]) C 3 (by decide) (ce85 _) rfl aw508 aw509 hM aw507 aw510 aw5 yd_X9_opens ⟨rfl, rfl⟩ ⟨Nat.le_of_ble_eq_true rfl, Nat.le_of_ble_eq_true rfl⟩ rfl (Nat.le_of_ble_eq_true rfl) dX9_layOpen_38 (fun r3 M2 h => ?_)
        refine r_if_eq (pc := 41) (tgt := 50) C dX9_layOpen_41 (by decide) (fun c4 => ?_) (fun c4 => ?_)
        · have h := h.1 c4
          refine r_iconst (pc := 50) (v := 0) C dX9_layOpen_50 (by decide) ?_
          refine r_ior (pc := 51) C dX9_layOpen_51 ?_
          refine r_topi (fun v5 ev5 => ?_)
          replace h := h v5 ev5
          refine r_put (pc := 52) (k := 85) (j := 16) (Cn := RX9) (T := TX9) (N := 21) (host := "") C (by decide) (ce85 _) rfl iaX9 (by decide) (ce85 _) tyX9_ok nmX9 aw660 rfl rfl (tyX9_ok 16 (by decide)) (Nat.le_of_ble_eq_true rfl) dX9_layOpen_52 ?_
          refine r_topM (fun M6 eM6 => ?_)
          replace h := h M6 eM6
          obtain ⟨v7, ev7⟩ : ∃ z : Int32, z = x2 + 1 := ⟨_, rfl⟩
          replace h := h v7 ev7
          refine r_iinc (pc := 55) (v := v7) (lv2 := [(2, .int v7), (0, .ref (ad X 85)), (1, .int x1)]) C 2 dX9_layOpen_55 rfl (by rw [ev7]; rfl) (by decide) rfl ?_
          refine r_goto (pc := 58) (tgt := 19) C dX9_layOpen_58 (by decide) ?_
          refine r_sub (lv2 := [(0, .ref (ad X 85)), (1, .int x1), (2, .int v7)]) [1, 2, 0] rfl ?_
          exact ih _ _ _ h
        · have h := h.2 c4
          refine r_iconst (pc := 44) (v := 1) C dX9_layOpen_44 (by decide) ?_
          refine r_iload_n (pc := 45) C 2 dX9_layOpen_45 rfl ?_
          refine r_ishl (pc := 46) C dX9_layOpen_46 ?_
          refine r_goto (pc := 47) (tgt := 51) C dX9_layOpen_47 (by decide) ?_
          refine r_ior (pc := 51) C dX9_layOpen_51 ?_
          refine r_topi (fun v8 ev8 => ?_)
          replace h := h v8 ev8
          refine r_put (pc := 52) (k := 85) (j := 16) (Cn := RX9) (T := TX9) (N := 21) (host := "") C (by decide) (ce85 _) rfl iaX9 (by decide) (ce85 _) tyX9_ok nmX9 aw660 rfl rfl (tyX9_ok 16 (by decide)) (Nat.le_of_ble_eq_true rfl) dX9_layOpen_52 ?_
          refine r_topM (fun M9 eM9 => ?_)
          replace h := h M9 eM9
          obtain ⟨v10, ev10⟩ : ∃ z : Int32, z = x2 + 1 := ⟨_, rfl⟩
          replace h := h v10 ev10
          refine r_iinc (pc := 55) (v := v10) (lv2 := [(2, .int v10), (0, .ref (ad X 85)), (1, .int x1)]) C 2 dX9_layOpen_55 rfl (by rw [ev10]; rfl) (by decide) rfl ?_
          refine r_goto (pc := 58) (tgt := 19) C dX9_layOpen_58 (by decide) ?_
          refine r_sub (lv2 := [(0, .ref (ad X 85)), (1, .int x1), (2, .int v10)]) [1, 2, 0] rfl ?_
          exact ih _ _ _ h
  unfold w_X9_layOpen at h
  refine r_aload_n (pc := 0) C 0 dX9_layOpen_0 rfl ?_
  refine r_iconst (pc := 1) (v := 0) C dX9_layOpen_1 (by decide) ?_
  refine r_put (pc := 2) (k := 85) (j := 16) (Cn := RX9) (T := TX9) (N := 21) (host := "") C (by decide) (ce85 _) rfl iaX9 (by decide) (ce85 _) tyX9_ok nmX9 aw660 rfl rfl (tyX9_ok 16 (by decide)) (Nat.le_of_ble_eq_true rfl) dX9_layOpen_2 ?_
  refine r_topM (fun M1 eM1 => ?_)
  replace h := h M1 eM1
  refine r_aload_n (pc := 5) C 0 dX9_layOpen_5 rfl ?_
  refine r_ldc (pc := 6) C aw330 dX9_layOpen_6 ?_
  refine r_put (pc := 8) (k := 85) (j := 17) (Cn := RX9) (T := TX9) (N := 21) (host := "") C (by decide) (ce85 _) rfl iaX9 (by decide) (ce85 _) tyX9_ok nmX9 aw665 rfl rfl (tyX9_ok 17 (by decide)) (Nat.le_of_ble_eq_true rfl) dX9_layOpen_8 ?_
  refine r_topM (fun M2 eM2 => ?_)
  replace h := h M2 eM2
  refine r_aload_n (pc := 11) C 0 dX9_layOpen_11 rfl ?_
  refine r_ldc (pc := 12) C aw330 dX9_layOpen_12 ?_
  refine r_put (pc := 14) (k := 85) (j := 18) (Cn := RX9) (T := TX9) (N := 21) (host := "") C (by decide) (ce85 _) rfl iaX9 (by decide) (ce85 _) tyX9_ok nmX9 aw666 rfl rfl (tyX9_ok 18 (by decide)) (Nat.le_of_ble_eq_true rfl) dX9_layOpen_14 ?_
  refine r_topM (fun M3 eM3 => ?_)
  replace h := h M3 eM3
  refine r_iconst (pc := 17) (v := 0) C dX9_layOpen_17 (by decide) ?_
  refine r_istore_n (pc := 18) (lv2 := [(2, .int 0), (0, .ref (ad X 85)), (1, .int x1)]) C dX9_layOpen_18 (by decide) rfl ?_
  obtain ⟨n4, h⟩ := h
  refine r_sub (lv2 := [(0, .ref (ad X 85)), (1, .int x1), (2, .int 0)]) [1, 2, 0] rfl ?_
  exact hL19  _ _ _ _ h
theorem yd_X9_further : yX9_further.cls ≠ "java/lang/invoke/MethodHandle" ∧ yX9_further.cls ≠ "java/lang/invoke/VarHandle" ∧ (parseMethodDescriptor yX9_further.desc).map (fun d => d.parameters.length) = some 1 := by decide +kernel
def wJ_X9_further_111  (Q : Int32 → Mem → Prop)  (M : Mem) (x1 : Int32) (s0 : Int32) (s1 : Int32) : Prop :=
  ∀ v1 : Int32, v1 = (s0 ||| s1) → (w_X9_has  M x1 (M 85 18) (fun r3 M2 => ((r3 = 0) → (∀ v5 : Int32, v5 = (v1 ||| 0) → (Q v5 M2))) ∧ ((¬ r3 = 0) → (∀ v6 : Int32, v6 = (v1 ||| (1 <<< ((M2 85 17) &&& 31))) → (Q v6 M2)))))
def wB_X9_further_17  (Q : Int32 → Mem → Prop) (R4 : Mem → Int32 → Int32 → Int32 → Prop) (R17 : Mem → Int32 → Int32 → Int32 → Int32 → Prop) (M : Mem) (x1 : Int32) (x2 : Int32) (x3 : Int32) (x4 : Int32) : Prop :=
  ((2 ≤ x4) → (∀ v2 : Int32, v2 = x3 + 1 → (R4 M x1 x2 v2))) ∧ ((¬ 2 ≤ x4) → (w_X9_has  M (M 85 16) x3 (fun r4 M3 => ((r4 = 0) → (∀ v6 : Int32, v6 = x3 + 1 → (R4 M3 x1 x2 v6))) ∧ ((¬ r4 = 0) → (w_X9_endOf  M3 0 x3 x4 (fun r8 M7 => w_X9_has  M7 x1 r8 (fun r10 M9 => ((r10 = 0) → (∀ v12 : Int32, v12 = (x2 ||| 0) → (∀ v13 : Int32, v13 = x4 + 1 → (R17 M9 x1 v12 x3 v13)))) ∧ ((¬ r10 = 0) → (w_X9_endOf  M9 0 x3 (1 - x4) (fun r15 M14 => ∀ v16 : Int32, v16 = (x2 ||| (1 <<< (r15 &&& 31))) → (∀ v17 : Int32, v17 = x4 + 1 → (R17 M14 x1 v16 x3 v17))))))))))))
def wL_X9_further_17  (Q : Int32 → Mem → Prop) (R4 : Mem → Int32 → Int32 → Int32 → Prop) : Nat → Mem → Int32 → Int32 → Int32 → Int32 → Prop
  | 0 => fun _ _ _ _ _ => False
  | n + 1 => fun M x1 x2 x3 x4 => wB_X9_further_17  Q R4 (wL_X9_further_17  Q R4 n) M x1 x2 x3 x4
theorem wL_X9_further_17_s  {Q : Int32 → Mem → Prop} {R4 : Mem → Int32 → Int32 → Int32 → Prop} {n : Nat} {M : Mem} {x1 : Int32} {x2 : Int32} {x3 : Int32} {x4 : Int32} (h : wL_X9_further_17  Q R4 (n + 1) M x1 x2 x3 x4) : wB_X9_further_17  Q R4 (wL_X9_further_17  Q R4 n) M x1 x2 x3 x4 := h
def wB_X9_further_4  (Q : Int32 → Mem → Prop)  (R4 : Mem → Int32 → Int32 → Int32 → Prop) (M : Mem) (x1 : Int32) (x2 : Int32) (x3 : Int32) : Prop :=
  (((M 86 2) ≤ x3) → ((((M 85 17) = (-1000000)) → (Q x2 M)) ∧ ((¬ (M 85 17) = (-1000000)) → (w_X9_has  M x1 (M 85 17) (fun r4 M3 => ((r4 = 0) → (wJ_X9_further_111  Q  M3 x1 x2 0)) ∧ ((¬ r4 = 0) → (wJ_X9_further_111  Q  M3 x1 x2 (1 <<< ((M3 85 18) &&& 31))))))))) ∧ ((¬ (M 86 2) ≤ x3) → (∃ n6 : Nat, wL_X9_further_17  Q R4 n6 M x1 x2 x3 0))
def wL_X9_further_4  (Q : Int32 → Mem → Prop)  : Nat → Mem → Int32 → Int32 → Int32 → Prop
  | 0 => fun _ _ _ _ => False
  | n + 1 => fun M x1 x2 x3 => wB_X9_further_4  Q  (wL_X9_further_4  Q  n) M x1 x2 x3
theorem wL_X9_further_4_s  {Q : Int32 → Mem → Prop}  {n : Nat} {M : Mem} {x1 : Int32} {x2 : Int32} {x3 : Int32} (h : wL_X9_further_4  Q  (n + 1) M x1 x2 x3) : wB_X9_further_4  Q  (wL_X9_further_4  Q  n) M x1 x2 x3 := h
def w_X9_further  (M : Mem) (x1 : Int32) (Q : Int32 → Mem → Prop) : Prop :=
  ∃ n1 : Nat, wL_X9_further_4  Q  n1 M x1 x1 0
abbrev rm_X9_further : Room := { frames := 6, cells := 0, slots := 0, locals := 120 }
set_option maxHeartbeats 4000000 in
set_option maxRecDepth 100000 in
theorem c_X9_further (X : Cx)  (M : Mem) (x1 : Int32) (Q : Int32 → Mem → Prop) (h : w_X9_further  M x1 Q) : Ct yX9_further cX9_further 5 (some .int) rm_X9_further X M [.ref (ad X 85), .int x1] (Qi X Q) := by
  refine ct_of (own := RX9) (lv := [(0, .ref (ad X 85)), (1, .int x1)]) rfl (by decide) (Nat.le_of_ble_eq_true rfl) rfl ?_
  intro K C
  have hJ111 : ∀  (M : Mem) (x1 : Int32) (s0 : Int32) (s1 : Int32), wJ_X9_further_111  Q  M x1 s0 s1 → WX K X 5 (Qi X Q) M 111 [(0, .ref (ad X 85)), (1, .int x1)] [.int s1, .int s0] := by
    intro  M x1 s0 s1 h
    unfold wJ_X9_further_111 at h
    refine r_ior (pc := 111) C dX9_further_111 ?_
    refine r_topi (fun v1 ev1 => ?_)
    replace h := h v1 ev1
    refine r_istore_n (pc := 112) (lv2 := [(2, .int v1), (0, .ref (ad X 85)), (1, .int x1)]) C dX9_further_112 (by decide) rfl ?_
    refine r_iload_n (pc := 113) C 0 dX9_further_113 rfl ?_
    refine r_iload_n (pc := 114) C 2 dX9_further_114 rfl ?_
    refine r_aload_n (pc := 115) C 1 dX9_further_115 rfl ?_
    refine r_get (pc := 116) (k := 85) (j := 18) (Cn := RX9) (T := TX9) (N := 21) C (by decide) (ce85 _) rfl iaX9 (by decide) aw666 rfl rfl dX9_further_116 ?_
    have hM := c_X9_has X  M x1 (M 85 18) _ h
    refine q_s0 (s1 := List.reverse [.int x1, .int (M 85 18)] ++ [.int v1]) rfl ?_
    refine r_callSi (pc := 119) (As := [.int x1, .int (M 85 18)]) (st := [.int v1]) C 2 hM aw373 aw374 aw375 aw5 yd_X9_has ⟨rfl, rfl⟩ ⟨Nat.le_of_ble_eq_true rfl, Nat.le_of_ble_eq_true rfl⟩ rfl (Nat.le_of_ble_eq_true rfl) dX9_further_119 (fun r3 M2 h => ?_)
    refine r_if_eq (pc := 122) (tgt := 134) C dX9_further_122 (by decide) (fun c4 => ?_) (fun c4 => ?_)
    · have h := h.1 c4
      refine r_iconst (pc := 134) (v := 0) C dX9_further_134 (by decide) ?_
      refine r_ior (pc := 135) C dX9_further_135 ?_
      refine r_topi (fun v5 ev5 => ?_)
      replace h := h v5 ev5
      refine r_istore_n (pc := 136) (lv2 := [(2, .int v5), (0, .ref (ad X 85)), (1, .int x1)]) C dX9_further_136 (by decide) rfl ?_
      refine r_iload_n (pc := 137) C 0 dX9_further_137 rfl ?_
      exact r_iret (pc := 138) C dX9_further_138 h
    · have h := h.2 c4
      refine r_iconst (pc := 125) (v := 1) C dX9_further_125 (by decide) ?_
      refine r_aload_n (pc := 126) C 1 dX9_further_126 rfl ?_
      refine r_get (pc := 127) (k := 85) (j := 17) (Cn := RX9) (T := TX9) (N := 21) C (by decide) (ce85 _) rfl iaX9 (by decide) aw665 rfl rfl dX9_further_127 ?_
      refine r_ishl (pc := 130) C dX9_further_130 ?_
      refine r_goto (pc := 131) (tgt := 135) C dX9_further_131 (by decide) ?_
      refine r_ior (pc := 135) C dX9_further_135 ?_
      refine r_topi (fun v6 ev6 => ?_)
      replace h := h v6 ev6
      refine r_istore_n (pc := 136) (lv2 := [(2, .int v6), (0, .ref (ad X 85)), (1, .int x1)]) C dX9_further_136 (by decide) rfl ?_
      refine r_iload_n (pc := 137) C 0 dX9_further_137 rfl ?_
      exact r_iret (pc := 138) C dX9_further_138 h
  have hL17 : ∀ (R4 : Mem → Int32 → Int32 → Int32 → Prop) (hR4 : ∀ (M : Mem) (x1 : Int32) (x2 : Int32) (x3 : Int32), R4 M x1 x2 x3 → WX K X 5 (Qi X Q) M 4 [(0, .ref (ad X 85)), (1, .int x1), (2, .int x2), (3, .int x3)] []) (n : Nat) (M : Mem) (x1 : Int32) (x2 : Int32) (x3 : Int32) (x4 : Int32), wL_X9_further_17  Q R4 n M x1 x2 x3 x4 → WX K X 5 (Qi X Q) M 17 [(0, .ref (ad X 85)), (1, .int x1), (2, .int x2), (3, .int x3), (4, .int x4)] [] := by
    intro R4 hR4 n
    induction n with
    | zero => intro M x1 x2 x3 x4 h; exact absurd h id
    | succ n ih =>
      intro M x1 x2 x3 x4 h
      replace h := wL_X9_further_17_s h
      unfold wB_X9_further_17 at h
      refine r_iload (pc := 17) C 4 dX9_further_17 rfl ?_
      refine r_iconst (pc := 19) (v := 2) C dX9_further_19 (by decide) ?_
      refine r_icmp_ge (pc := 20) (tgt := 74) C dX9_further_20 (by decide) (fun c1 => ?_) (fun c1 => ?_)
      · have h := h.1 c1
        obtain ⟨v2, ev2⟩ : ∃ z : Int32, z = x3 + 1 := ⟨_, rfl⟩
        replace h := h v2 ev2
        refine r_iinc (pc := 74) (v := v2) (lv2 := [(3, .int v2), (0, .ref (ad X 85)), (1, .int x1), (2, .int x2), (4, .int x4)]) C 3 dX9_further_74 rfl (by rw [ev2]; rfl) (by decide) rfl ?_
        refine r_goto (pc := 77) (tgt := 4) C dX9_further_77 (by decide) ?_
        refine r_sub (lv2 := [(0, .ref (ad X 85)), (1, .int x1), (2, .int x2), (3, .int v2)]) [1, 2, 3, 0] rfl ?_
        exact hR4 _ _ _ _ h
      · have h := h.2 c1
        refine r_aload_n (pc := 23) C 0 dX9_further_23 rfl ?_
        refine r_get (pc := 24) (k := 85) (j := 16) (Cn := RX9) (T := TX9) (N := 21) C (by decide) (ce85 _) rfl iaX9 (by decide) aw660 rfl rfl dX9_further_24 ?_
        refine r_iload_n (pc := 27) C 3 dX9_further_27 rfl ?_
        have hM := c_X9_has X  M (M 85 16) x3 _ h
        refine q_s0 (s1 := List.reverse [.int (M 85 16), .int x3] ++ []) rfl ?_
        refine r_callSi (pc := 28) (As := [.int (M 85 16), .int x3]) (st := []) C 2 hM aw373 aw374 aw375 aw5 yd_X9_has ⟨rfl, rfl⟩ ⟨Nat.le_of_ble_eq_true rfl, Nat.le_of_ble_eq_true rfl⟩ rfl (Nat.le_of_ble_eq_true rfl) dX9_further_28 (fun r4 M3 h => ?_)
        refine r_if_eq (pc := 31) (tgt := 74) C dX9_further_31 (by decide) (fun c5 => ?_) (fun c5 => ?_)
        · have h := h.1 c5
          obtain ⟨v6, ev6⟩ : ∃ z : Int32, z = x3 + 1 := ⟨_, rfl⟩
          replace h := h v6 ev6
          refine r_iinc (pc := 74) (v := v6) (lv2 := [(3, .int v6), (0, .ref (ad X 85)), (1, .int x1), (2, .int x2), (4, .int x4)]) C 3 dX9_further_74 rfl (by rw [ev6]; rfl) (by decide) rfl ?_
          refine r_goto (pc := 77) (tgt := 4) C dX9_further_77 (by decide) ?_
          refine r_sub (lv2 := [(0, .ref (ad X 85)), (1, .int x1), (2, .int x2), (3, .int v6)]) [1, 2, 3, 0] rfl ?_
          exact hR4 _ _ _ _ h
        · have h := h.2 c5
          refine r_iload_n (pc := 34) C 2 dX9_further_34 rfl ?_
          refine r_iload_n (pc := 35) C 1 dX9_further_35 rfl ?_
          refine r_aload_n (pc := 36) C 0 dX9_further_36 rfl ?_
          refine r_iconst (pc := 37) (v := 0) C dX9_further_37 (by decide) ?_
          refine r_iload_n (pc := 38) C 3 dX9_further_38 rfl ?_
          refine r_iload (pc := 39) C 4 dX9_further_39 rfl ?_
          have hM := c_X9_endOf X  M3 0 x3 x4 _ h
          refine q_s0 (s1 := List.reverse [.int 0, .int x3, .int x4] ++ .ref (ad X 85) :: [.int x1, .int x2]) rfl ?_
          refine r_callVi (pc := 41) (k := 85) (As := [.int 0, .int x3, .int x4]) (st := [.int x1, .int x2]) C 3 (by decide) (ce85 _) rfl aw496 aw497 hM aw495 aw498 aw5 yd_X9_endOf ⟨rfl, rfl⟩ ⟨Nat.le_of_ble_eq_true rfl, Nat.le_of_ble_eq_true rfl⟩ rfl (Nat.le_of_ble_eq_true rfl) dX9_further_41 (fun r8 M7 h => ?_)
          have hM := c_X9_has X  M7 x1 r8 _ h
          refine q_s0 (s1 := List.reverse [.int x1, .int r8] ++ [.int x2]) rfl ?_
          refine r_callSi (pc := 44) (As := [.int x1, .int r8]) (st := [.int x2]) C 2 hM aw373 aw374 aw375 aw5 yd_X9_has ⟨rfl, rfl⟩ ⟨Nat.le_of_ble_eq_true rfl, Nat.le_of_ble_eq_true rfl⟩ rfl (Nat.le_of_ble_eq_true rfl) dX9_further_44 (fun r10 M9 h => ?_)
          refine r_if_eq (pc := 47) (tgt := 65) C dX9_further_47 (by decide) (fun c11 => ?_) (fun c11 => ?_)
          · have h := h.1 c11
            refine r_iconst (pc := 65) (v := 0) C dX9_further_65 (by decide) ?_
            refine r_ior (pc := 66) C dX9_further_66 ?_
            refine r_topi (fun v12 ev12 => ?_)
            replace h := h v12 ev12
            refine r_istore_n (pc := 67) (lv2 := [(2, .int v12), (0, .ref (ad X 85)), (1, .int x1), (3, .int x3), (4, .int x4)]) C dX9_further_67 (by decide) rfl ?_
            obtain ⟨v13, ev13⟩ : ∃ z : Int32, z = x4 + 1 := ⟨_, rfl⟩
            replace h := h v13 ev13
            refine r_iinc (pc := 68) (v := v13) (lv2 := [(4, .int v13), (2, .int v12), (0, .ref (ad X 85)), (1, .int x1), (3, .int x3)]) C 4 dX9_further_68 rfl (by rw [ev13]; rfl) (by decide) rfl ?_
            refine r_goto (pc := 71) (tgt := 17) C dX9_further_71 (by decide) ?_
            refine r_sub (lv2 := [(0, .ref (ad X 85)), (1, .int x1), (2, .int v12), (3, .int x3), (4, .int v13)]) [2, 3, 1, 4, 0] rfl ?_
            exact ih _ _ _ _ _ h
          · have h := h.2 c11
            refine r_iconst (pc := 50) (v := 1) C dX9_further_50 (by decide) ?_
            refine r_aload_n (pc := 51) C 0 dX9_further_51 rfl ?_
            refine r_iconst (pc := 52) (v := 0) C dX9_further_52 (by decide) ?_
            refine r_iload_n (pc := 53) C 3 dX9_further_53 rfl ?_
            refine r_iconst (pc := 54) (v := 1) C dX9_further_54 (by decide) ?_
            refine r_iload (pc := 55) C 4 dX9_further_55 rfl ?_
            refine r_isub (pc := 57) C dX9_further_57 ?_
            have hM := c_X9_endOf X  M9 0 x3 (1 - x4) _ h
            refine q_s0 (s1 := List.reverse [.int 0, .int x3, .int (1 - x4)] ++ .ref (ad X 85) :: [.int 1, .int x2]) rfl ?_
            refine r_callVi (pc := 58) (k := 85) (As := [.int 0, .int x3, .int (1 - x4)]) (st := [.int 1, .int x2]) C 3 (by decide) (ce85 _) rfl aw496 aw497 hM aw495 aw498 aw5 yd_X9_endOf ⟨rfl, rfl⟩ ⟨Nat.le_of_ble_eq_true rfl, Nat.le_of_ble_eq_true rfl⟩ rfl (Nat.le_of_ble_eq_true rfl) dX9_further_58 (fun r15 M14 h => ?_)
            refine r_ishl (pc := 61) C dX9_further_61 ?_
            refine r_goto (pc := 62) (tgt := 66) C dX9_further_62 (by decide) ?_
            refine r_ior (pc := 66) C dX9_further_66 ?_
            refine r_topi (fun v16 ev16 => ?_)
            replace h := h v16 ev16
            refine r_istore_n (pc := 67) (lv2 := [(2, .int v16), (0, .ref (ad X 85)), (1, .int x1), (3, .int x3), (4, .int x4)]) C dX9_further_67 (by decide) rfl ?_
            obtain ⟨v17, ev17⟩ : ∃ z : Int32, z = x4 + 1 := ⟨_, rfl⟩
            replace h := h v17 ev17
            refine r_iinc (pc := 68) (v := v17) (lv2 := [(4, .int v17), (2, .int v16), (0, .ref (ad X 85)), (1, .int x1), (3, .int x3)]) C 4 dX9_further_68 rfl (by rw [ev17]; rfl) (by decide) rfl ?_
            refine r_goto (pc := 71) (tgt := 17) C dX9_further_71 (by decide) ?_
            refine r_sub (lv2 := [(0, .ref (ad X 85)), (1, .int x1), (2, .int v16), (3, .int x3), (4, .int v17)]) [2, 3, 1, 4, 0] rfl ?_
            exact ih _ _ _ _ _ h
  have hL4 : ∀  (n : Nat) (M : Mem) (x1 : Int32) (x2 : Int32) (x3 : Int32), wL_X9_further_4  Q  n M x1 x2 x3 → WX K X 5 (Qi X Q) M 4 [(0, .ref (ad X 85)), (1, .int x1), (2, .int x2), (3, .int x3)] [] := by
    intro  n
    induction n with
    | zero => intro M x1 x2 x3 h; exact absurd h id
    | succ n ih =>
      intro M x1 x2 x3 h
      replace h := wL_X9_further_4_s h
      unfold wB_X9_further_4 at h
      refine r_iload_n (pc := 4) C 3 dX9_further_4 rfl ?_
      refine r_aload_n (pc := 5) C 0 dX9_further_5 rfl ?_
      refine r_get (pc := 6) (k := 85) (j := 0) (Cn := RX9) (T := TX9) (N := 21) C (by decide) (ce85 _) rfl iaX9 (by decide) aw103 rfl rfl dX9_further_6 ?_
      refine r_iconst (pc := 9) (v := 2) C dX9_further_9 (by decide) ?_
      refine q_iald (pc := 10) (k := 86) (n := 3528) (j := 2) C (by decide) (ce86 _) (in_lit (by decide)) (by decide) dX9_further_10 ?_
      refine r_icmp_ge (pc := 11) (tgt := 80) C dX9_further_11 (by decide) (fun c1 => ?_) (fun c1 => ?_)
      · have h := h.1 c1
        refine r_aload_n (pc := 80) C 0 dX9_further_80 rfl ?_
        refine r_get (pc := 81) (k := 85) (j := 17) (Cn := RX9) (T := TX9) (N := 21) C (by decide) (ce85 _) rfl iaX9 (by decide) aw665 rfl rfl dX9_further_81 ?_
        refine r_ldc (pc := 84) C aw330 dX9_further_84 ?_
        refine r_icmp_eq (pc := 86) (tgt := 137) C dX9_further_86 (by decide) (fun c2 => ?_) (fun c2 => ?_)
        · have h := h.1 c2
          refine r_iload_n (pc := 137) C 2 dX9_further_137 rfl ?_
          exact r_iret (pc := 138) C dX9_further_138 h
        · have h := h.2 c2
          refine r_iload_n (pc := 89) C 2 dX9_further_89 rfl ?_
          refine r_iload_n (pc := 90) C 1 dX9_further_90 rfl ?_
          refine r_aload_n (pc := 91) C 0 dX9_further_91 rfl ?_
          refine r_get (pc := 92) (k := 85) (j := 17) (Cn := RX9) (T := TX9) (N := 21) C (by decide) (ce85 _) rfl iaX9 (by decide) aw665 rfl rfl dX9_further_92 ?_
          have hM := c_X9_has X  M x1 (M 85 17) _ h
          refine q_s0 (s1 := List.reverse [.int x1, .int (M 85 17)] ++ [.int x2]) rfl ?_
          refine r_callSi (pc := 95) (As := [.int x1, .int (M 85 17)]) (st := [.int x2]) C 2 hM aw373 aw374 aw375 aw5 yd_X9_has ⟨rfl, rfl⟩ ⟨Nat.le_of_ble_eq_true rfl, Nat.le_of_ble_eq_true rfl⟩ rfl (Nat.le_of_ble_eq_true rfl) dX9_further_95 (fun r4 M3 h => ?_)
          refine r_if_eq (pc := 98) (tgt := 110) C dX9_further_98 (by decide) (fun c5 => ?_) (fun c5 => ?_)
          · have h := h.1 c5
            refine r_iconst (pc := 110) (v := 0) C dX9_further_110 (by decide) ?_
            refine r_sub (lv2 := [(0, .ref (ad X 85)), (1, .int x1)]) [0, 1] rfl ?_
            exact hJ111  _ _ _ _ h
          · have h := h.2 c5
            refine r_iconst (pc := 101) (v := 1) C dX9_further_101 (by decide) ?_
            refine r_aload_n (pc := 102) C 0 dX9_further_102 rfl ?_
            refine r_get (pc := 103) (k := 85) (j := 18) (Cn := RX9) (T := TX9) (N := 21) C (by decide) (ce85 _) rfl iaX9 (by decide) aw666 rfl rfl dX9_further_103 ?_
            refine r_ishl (pc := 106) C dX9_further_106 ?_
            refine r_goto (pc := 107) (tgt := 111) C dX9_further_107 (by decide) ?_
            refine r_sub (lv2 := [(0, .ref (ad X 85)), (1, .int x1)]) [0, 1] rfl ?_
            exact hJ111  _ _ _ _ h
      · have h := h.2 c1
        refine r_iconst (pc := 14) (v := 0) C dX9_further_14 (by decide) ?_
        refine r_istore (pc := 15) (lv2 := [(4, .int 0), (0, .ref (ad X 85)), (1, .int x1), (2, .int x2), (3, .int x3)]) C dX9_further_15 (by decide) rfl ?_
        obtain ⟨n6, h⟩ := h
        refine r_sub (lv2 := [(0, .ref (ad X 85)), (1, .int x1), (2, .int x2), (3, .int x3), (4, .int 0)]) [1, 2, 3, 4, 0] rfl ?_
        exact hL17 _ ih _ _ _ _ _ _ h
  unfold w_X9_further at h
  refine r_iload_n (pc := 0) C 1 dX9_further_0 rfl ?_
  refine r_istore_n (pc := 1) (lv2 := [(2, .int x1), (0, .ref (ad X 85)), (1, .int x1)]) C dX9_further_1 (by decide) rfl ?_
  refine r_iconst (pc := 2) (v := 0) C dX9_further_2 (by decide) ?_
  refine r_istore_n (pc := 3) (lv2 := [(3, .int 0), (2, .int x1), (0, .ref (ad X 85)), (1, .int x1)]) C dX9_further_3 (by decide) rfl ?_
  obtain ⟨n1, h⟩ := h
  refine r_sub (lv2 := [(0, .ref (ad X 85)), (1, .int x1), (2, .int x1), (3, .int 0)]) [2, 3, 1, 0] rfl ?_
  exact hL4  _ _ _ _ _ h
theorem yd_X9_farFrom : yX9_farFrom.cls ≠ "java/lang/invoke/MethodHandle" ∧ yX9_farFrom.cls ≠ "java/lang/invoke/VarHandle" ∧ (parseMethodDescriptor yX9_farFrom.desc).map (fun d => d.parameters.length) = some 2 := by decide +kernel
def wB_X9_farFrom_7  (Q : Int32 → Mem → Prop)  (R7 : Mem → Int32 → Int32 → Int32 → Prop) (M : Mem) (x2 : Int32) (x3 : Int32) (x4 : Int32) : Prop :=
  ((7 ≤ x4) → (Q (-1000000) M)) ∧ ((¬ 7 ≤ x4) → (w_X9_has  M x3 x2 (fun r3 M2 => ((r3 = 0) → (w_X9_further  M2 x3 (fun r6 M5 => ∀ v7 : Int32, v7 = x4 + 1 → (R7 M5 x2 r6 v7)))) ∧ ((¬ r3 = 0) → (Q x4 M2)))))
def wL_X9_farFrom_7  (Q : Int32 → Mem → Prop)  : Nat → Mem → Int32 → Int32 → Int32 → Prop
  | 0 => fun _ _ _ _ => False
  | n + 1 => fun M x2 x3 x4 => wB_X9_farFrom_7  Q  (wL_X9_farFrom_7  Q  n) M x2 x3 x4
theorem wL_X9_farFrom_7_s  {Q : Int32 → Mem → Prop}  {n : Nat} {M : Mem} {x2 : Int32} {x3 : Int32} {x4 : Int32} (h : wL_X9_farFrom_7  Q  (n + 1) M x2 x3 x4) : wB_X9_farFrom_7  Q  (wL_X9_farFrom_7  Q  n) M x2 x3 x4 := h
def w_X9_farFrom  (M : Mem) (x1 : Int32) (x2 : Int32) (Q : Int32 → Mem → Prop) : Prop :=
  ∀ v1 : Int32, v1 = (1 <<< (x1 &&& 31)) → (∃ n2 : Nat, wL_X9_farFrom_7  Q  n2 M x2 v1 0)
abbrev rm_X9_farFrom : Room := { frames := 9, cells := 0, slots := 0, locals := 180 }
set_option maxHeartbeats 4000000 in
set_option maxRecDepth 100000 in
theorem c_X9_farFrom (X : Cx)  (M : Mem) (x1 : Int32) (x2 : Int32) (Q : Int32 → Mem → Prop) (h : w_X9_farFrom  M x1 x2 Q) : Ct yX9_farFrom cX9_farFrom 5 (some .int) rm_X9_farFrom X M [.ref (ad X 85), .int x1, .int x2] (Qi X Q) := by
  refine ct_of (own := RX9) (lv := [(0, .ref (ad X 85)), (1, .int x1), (2, .int x2)]) rfl (by decide) (Nat.le_of_ble_eq_true rfl) rfl ?_
  intro K C
  have hL7 : ∀  (n : Nat) (M : Mem) (x2 : Int32) (x3 : Int32) (x4 : Int32), wL_X9_farFrom_7  Q  n M x2 x3 x4 → WX K X 5 (Qi X Q) M 7 [(0, .ref (ad X 85)), (2, .int x2), (3, .int x3), (4, .int x4)] [] := by
    intro  n
    induction n with
    | zero => intro M x2 x3 x4 h; exact absurd h id
    | succ n ih =>
      intro M x2 x3 x4 h
      replace h := wL_X9_farFrom_7_s h
      unfold wB_X9_farFrom_7 at h
      refine r_iload (pc := 7) C 3 dX9_farFrom_7 rfl ?_
      refine r_bipush (pc := 9) (v := 7) C dX9_farFrom_9 (by decide) ?_
      refine r_icmp_ge (pc := 11) (tgt := 37) C dX9_farFrom_11 (by decide) (fun c1 => ?_) (fun c1 => ?_)
      · have h := h.1 c1
        refine r_ldc (pc := 37) C aw330 dX9_farFrom_37 ?_
        exact r_iret (pc := 39) C dX9_farFrom_39 h
      · have h := h.2 c1
        refine r_iload_n (pc := 14) C 2 dX9_farFrom_14 rfl ?_
        refine r_iload_n (pc := 15) C 1 dX9_farFrom_15 rfl ?_
        have hM := c_X9_has X  M x3 x2 _ h
        refine q_s0 (s1 := List.reverse [.int x3, .int x2] ++ []) rfl ?_
        refine r_callSi (pc := 16) (As := [.int x3, .int x2]) (st := []) C 2 hM aw373 aw374 aw375 aw5 yd_X9_has ⟨rfl, rfl⟩ ⟨Nat.le_of_ble_eq_true rfl, Nat.le_of_ble_eq_true rfl⟩ rfl (Nat.le_of_ble_eq_true rfl) dX9_farFrom_16 (fun r3 M2 h => ?_)
        refine r_if_eq (pc := 19) (tgt := 25) C dX9_farFrom_19 (by decide) (fun c4 => ?_) (fun c4 => ?_)
        · have h := h.1 c4
          refine r_aload_n (pc := 25) C 0 dX9_farFrom_25 rfl ?_
          refine r_iload_n (pc := 26) C 2 dX9_farFrom_26 rfl ?_
          have hM := c_X9_further X  M2 x3 _ h
          refine q_s0 (s1 := List.reverse [.int x3] ++ .ref (ad X 85) :: []) rfl ?_
          refine r_callVi (pc := 27) (k := 85) (As := [.int x3]) (st := []) C 1 (by decide) (ce85 _) rfl aw672 aw673 hM aw671 aw674 aw5 yd_X9_further ⟨rfl, rfl⟩ ⟨Nat.le_of_ble_eq_true rfl, Nat.le_of_ble_eq_true rfl⟩ rfl (Nat.le_of_ble_eq_true rfl) dX9_farFrom_27 (fun r6 M5 h => ?_)
          refine r_istore_n (pc := 30) (lv2 := [(3, .int r6), (0, .ref (ad X 85)), (2, .int x2), (4, .int x4)]) C dX9_farFrom_30 (by decide) rfl ?_
          obtain ⟨v7, ev7⟩ : ∃ z : Int32, z = x4 + 1 := ⟨_, rfl⟩
          replace h := h v7 ev7
          refine r_iinc (pc := 31) (v := v7) (lv2 := [(4, .int v7), (3, .int r6), (0, .ref (ad X 85)), (2, .int x2)]) C 3 dX9_farFrom_31 rfl (by rw [ev7]; rfl) (by decide) rfl ?_
          refine r_goto (pc := 34) (tgt := 7) C dX9_farFrom_34 (by decide) ?_
          refine r_sub (lv2 := [(0, .ref (ad X 85)), (2, .int x2), (3, .int r6), (4, .int v7)]) [2, 3, 1, 0] rfl ?_
          exact ih _ _ _ _ h
        · have h := h.2 c4
          refine r_iload (pc := 22) C 3 dX9_farFrom_22 rfl ?_
          exact r_iret (pc := 24) C dX9_farFrom_24 h
  unfold w_X9_farFrom at h
  refine r_iconst (pc := 0) (v := 1) C dX9_farFrom_0 (by decide) ?_
  refine r_iload_n (pc := 1) C 1 dX9_farFrom_1 rfl ?_
  refine r_ishl (pc := 2) C dX9_farFrom_2 ?_
  refine r_topi (fun v1 ev1 => ?_)
  replace h := h v1 ev1
  refine r_istore_n (pc := 3) (lv2 := [(3, .int v1), (0, .ref (ad X 85)), (1, .int x1), (2, .int x2)]) C dX9_farFrom_3 (by decide) rfl ?_
  refine r_iconst (pc := 4) (v := 0) C dX9_farFrom_4 (by decide) ?_
  refine r_istore (pc := 5) (lv2 := [(4, .int 0), (3, .int v1), (0, .ref (ad X 85)), (1, .int x1), (2, .int x2)]) C dX9_farFrom_5 (by decide) rfl ?_
  obtain ⟨n2, h⟩ := h
  refine r_sub (lv2 := [(0, .ref (ad X 85)), (2, .int x2), (3, .int v1), (4, .int 0)]) [2, 4, 1, 0] rfl ?_
  exact hL7  _ _ _ _ _ h
theorem yd_X9_way : yX9_way.cls ≠ "java/lang/invoke/MethodHandle" ∧ yX9_way.cls ≠ "java/lang/invoke/VarHandle" ∧ (parseMethodDescriptor yX9_way.desc).map (fun d => d.parameters.length) = some 3 := by decide +kernel
def wJ_X9_way_113  (Q : Int32 → Mem → Prop) (R71 : Mem → Int32 → Int32 → Int32 → Int32 → Prop) (M : Mem) (x2 : Int32) (x4 : Int32) (x5 : Int32) (x6 : Int32) (s0 : Int32) : Prop :=
  ((s0 = (-1000000)) → (∀ v2 : Int32, v2 = x6 + 1 → (R71 M x2 x4 x5 v2))) ∧ ((¬ s0 = (-1000000)) → (w_X9_farFrom  M s0 x2 (fun r4 M3 => ((¬ r4 = (x5 - 1)) → (∀ v6 : Int32, v6 = x6 + 1 → (R71 M3 x2 x4 x5 v6))) ∧ ((r4 = (x5 - 1)) → (Q x6 M3)))))
def wB_X9_way_71  (Q : Int32 → Mem → Prop)  (R71 : Mem → Int32 → Int32 → Int32 → Int32 → Prop) (M : Mem) (x2 : Int32) (x4 : Int32) (x5 : Int32) (x6 : Int32) : Prop :=
  (((M 86 2) ≤ x6) → (Q (-1000000) M)) ∧ ((¬ (M 86 2) ≤ x6) → (((x5 ≤ 0) → (Q (-1000000) M)) ∧ ((¬ x5 ≤ 0) → (w_X9_has  M (M 85 16) x6 (fun r4 M3 => ((r4 = 0) → (wJ_X9_way_113  Q R71 M3 x2 x4 x5 x6 (-1000000))) ∧ ((¬ r4 = 0) → (w_X9_behind  M3 0 x6 x4 (fun r7 M6 => wJ_X9_way_113  Q R71 M6 x2 x4 x5 x6 r7))))))))
def wL_X9_way_71  (Q : Int32 → Mem → Prop)  : Nat → Mem → Int32 → Int32 → Int32 → Int32 → Prop
  | 0 => fun _ _ _ _ _ => False
  | n + 1 => fun M x2 x4 x5 x6 => wB_X9_way_71  Q  (wL_X9_way_71  Q  n) M x2 x4 x5 x6
theorem wL_X9_way_71_s  {Q : Int32 → Mem → Prop}  {n : Nat} {M : Mem} {x2 : Int32} {x4 : Int32} {x5 : Int32} {x6 : Int32} (h : wL_X9_way_71  Q  (n + 1) M x2 x4 x5 x6) : wB_X9_way_71  Q  (wL_X9_way_71  Q  n) M x2 x4 x5 x6 := h
def w_X9_way  (M : Mem) (x1 : Int32) (x2 : Int32) (x3 : Int32) (Q : Int32 → Mem → Prop) : Prop :=
  w_X9_isPerson  M x1 (fun r2 M1 => ((r2 = 0) → (Q (-1000001) M1)) ∧ ((¬ r2 = 0) → (w_X9_isRoom  M1 x2 (fun r5 M4 => ((r5 = 0) → (Q (-1000001) M4)) ∧ ((¬ r5 = 0) → (w_X9_in  M4 (Int32.toInt64 x3) 0 1 (fun r8 M7 => ((¬ r8 = 0) → (w_X9_layOpen  M7 x1 (fun M10 => ∀ v12 : Int32, v12 = (24 + x1) → (vp_in v12 3528 ∧ (∀ v14 : Int32, v14 = (M10 86 (Int32.toNatClampNeg v12)) → (w_X9_farFrom  M10 v14 x2 (fun r16 M15 => ((x3 = 0) → (Q r16 M15)) ∧ ((¬ x3 = 0) → (((¬ r16 = (-1000000)) → (∃ n19 : Nat, wL_X9_way_71  Q  n19 M15 x2 v14 r16 0)) ∧ ((r16 = (-1000000)) → (Q r16 M15))))))))))) ∧ ((r8 = 0) → (Q (-1000001) M7)))))))))
abbrev rm_X9_way : Room := { frames := 21, cells := 0, slots := 0, locals := 420 }
set_option maxHeartbeats 4000000 in
set_option maxRecDepth 100000 in
theorem c_X9_way (X : Cx)  (M : Mem) (x1 : Int32) (x2 : Int32) (x3 : Int32) (Q : Int32 → Mem → Prop) (h : w_X9_way  M x1 x2 x3 Q) : Ct yX9_way cX9_way 8 (some .int) rm_X9_way X M [.ref (ad X 85), .int x1, .int x2, .int x3] (Qi X Q) := by
  refine ct_of (own := RX9) (lv := [(0, .ref (ad X 85)), (1, .int x1), (2, .int x2), (3, .int x3)]) rfl (by decide) (Nat.le_of_ble_eq_true rfl) rfl ?_
  intro K C
  have hJ113 : ∀ (R71 : Mem → Int32 → Int32 → Int32 → Int32 → Prop) (hR71 : ∀ (M : Mem) (x2 : Int32) (x4 : Int32) (x5 : Int32) (x6 : Int32), R71 M x2 x4 x5 x6 → WX K X 8 (Qi X Q) M 71 [(0, .ref (ad X 85)), (2, .int x2), (4, .int x4), (5, .int x5), (6, .int x6)] []) (M : Mem) (x2 : Int32) (x4 : Int32) (x5 : Int32) (x6 : Int32) (s0 : Int32), wJ_X9_way_113  Q R71 M x2 x4 x5 x6 s0 → WX K X 8 (Qi X Q) M 113 [(0, .ref (ad X 85)), (2, .int x2), (4, .int x4), (5, .int x5), (6, .int x6)] [.int s0] := by
    intro R71 hR71 M x2 x4 x5 x6 s0 h
    unfold wJ_X9_way_113 at h
    refine r_istore (pc := 113) (lv2 := [(7, .int s0), (0, .ref (ad X 85)), (2, .int x2), (4, .int x4), (5, .int x5), (6, .int x6)]) C dX9_way_113 (by decide) rfl ?_
    refine r_iload (pc := 115) C 0 dX9_way_115 rfl ?_
    refine r_ldc (pc := 117) C aw330 dX9_way_117 ?_
    refine r_icmp_eq (pc := 119) (tgt := 139) C dX9_way_119 (by decide) (fun c1 => ?_) (fun c1 => ?_)
    · have h := h.1 c1
      obtain ⟨v2, ev2⟩ : ∃ z : Int32, z = x6 + 1 := ⟨_, rfl⟩
      replace h := h v2 ev2
      refine r_iinc (pc := 139) (v := v2) (lv2 := [(6, .int v2), (7, .int s0), (0, .ref (ad X 85)), (2, .int x2), (4, .int x4), (5, .int x5)]) C 5 dX9_way_139 rfl (by rw [ev2]; rfl) (by decide) rfl ?_
      refine r_goto (pc := 142) (tgt := 71) C dX9_way_142 (by decide) ?_
      refine r_sub (lv2 := [(0, .ref (ad X 85)), (2, .int x2), (4, .int x4), (5, .int x5), (6, .int v2)]) [2, 3, 4, 5, 0] rfl ?_
      exact hR71 _ _ _ _ _ h
    · have h := h.2 c1
      refine r_aload_n (pc := 122) C 1 dX9_way_122 rfl ?_
      refine r_iload (pc := 123) C 0 dX9_way_123 rfl ?_
      refine r_iload_n (pc := 125) C 2 dX9_way_125 rfl ?_
      have hM := c_X9_farFrom X  M s0 x2 _ h
      refine q_s0 (s1 := List.reverse [.int s0, .int x2] ++ .ref (ad X 85) :: []) rfl ?_
      refine r_callVi (pc := 126) (k := 85) (As := [.int s0, .int x2]) (st := []) C 2 (by decide) (ce85 _) rfl aw668 aw669 hM aw667 aw670 aw5 yd_X9_farFrom ⟨rfl, rfl⟩ ⟨Nat.le_of_ble_eq_true rfl, Nat.le_of_ble_eq_true rfl⟩ rfl (Nat.le_of_ble_eq_true rfl) dX9_way_126 (fun r4 M3 h => ?_)
      refine r_iload (pc := 129) C 4 dX9_way_129 rfl ?_
      refine r_iconst (pc := 131) (v := 1) C dX9_way_131 (by decide) ?_
      refine r_isub (pc := 132) C dX9_way_132 ?_
      refine r_icmp_ne (pc := 133) (tgt := 139) C dX9_way_133 (by decide) (fun c5 => ?_) (fun c5 => ?_)
      · have h := h.1 c5
        obtain ⟨v6, ev6⟩ : ∃ z : Int32, z = x6 + 1 := ⟨_, rfl⟩
        replace h := h v6 ev6
        refine r_iinc (pc := 139) (v := v6) (lv2 := [(6, .int v6), (7, .int s0), (0, .ref (ad X 85)), (2, .int x2), (4, .int x4), (5, .int x5)]) C 5 dX9_way_139 rfl (by rw [ev6]; rfl) (by decide) rfl ?_
        refine r_goto (pc := 142) (tgt := 71) C dX9_way_142 (by decide) ?_
        refine r_sub (lv2 := [(0, .ref (ad X 85)), (2, .int x2), (4, .int x4), (5, .int x5), (6, .int v6)]) [2, 3, 4, 5, 0] rfl ?_
        exact hR71 _ _ _ _ _ h
      · have h := h.2 c5
        refine r_iload (pc := 136) C 5 dX9_way_136 rfl ?_
        exact r_iret (pc := 138) C dX9_way_138 h
  have hL71 : ∀  (n : Nat) (M : Mem) (x2 : Int32) (x4 : Int32) (x5 : Int32) (x6 : Int32), wL_X9_way_71  Q  n M x2 x4 x5 x6 → WX K X 8 (Qi X Q) M 71 [(0, .ref (ad X 85)), (2, .int x2), (4, .int x4), (5, .int x5), (6, .int x6)] [] := by
    intro  n
    induction n with
    | zero => intro M x2 x4 x5 x6 h; exact absurd h id
    | succ n ih =>
      intro M x2 x4 x5 x6 h
      replace h := wL_X9_way_71_s h
      unfold wB_X9_way_71 at h
      refine r_iload (pc := 71) C 4 dX9_way_71 rfl ?_
      refine r_aload_n (pc := 73) C 0 dX9_way_73 rfl ?_
      refine r_get (pc := 74) (k := 85) (j := 0) (Cn := RX9) (T := TX9) (N := 21) C (by decide) (ce85 _) rfl iaX9 (by decide) aw103 rfl rfl dX9_way_74 ?_
      refine r_iconst (pc := 77) (v := 2) C dX9_way_77 (by decide) ?_
      refine q_iald (pc := 78) (k := 86) (n := 3528) (j := 2) C (by decide) (ce86 _) (in_lit (by decide)) (by decide) dX9_way_78 ?_
      refine r_icmp_ge (pc := 79) (tgt := 145) C dX9_way_79 (by decide) (fun c1 => ?_) (fun c1 => ?_)
      · have h := h.1 c1
        refine r_ldc (pc := 145) C aw330 dX9_way_145 ?_
        exact r_iret (pc := 147) C dX9_way_147 h
      · have h := h.2 c1
        refine r_iload (pc := 82) C 3 dX9_way_82 rfl ?_
        refine r_if_le (pc := 84) (tgt := 145) C dX9_way_84 (by decide) (fun c2 => ?_) (fun c2 => ?_)
        · have h := h.1 c2
          refine r_ldc (pc := 145) C aw330 dX9_way_145 ?_
          exact r_iret (pc := 147) C dX9_way_147 h
        · have h := h.2 c2
          refine r_aload_n (pc := 87) C 0 dX9_way_87 rfl ?_
          refine r_get (pc := 88) (k := 85) (j := 16) (Cn := RX9) (T := TX9) (N := 21) C (by decide) (ce85 _) rfl iaX9 (by decide) aw660 rfl rfl dX9_way_88 ?_
          refine r_iload (pc := 91) C 4 dX9_way_91 rfl ?_
          have hM := c_X9_has X  M (M 85 16) x6 _ h
          refine q_s0 (s1 := List.reverse [.int (M 85 16), .int x6] ++ []) rfl ?_
          refine r_callSi (pc := 93) (As := [.int (M 85 16), .int x6]) (st := []) C 2 hM aw373 aw374 aw375 aw5 yd_X9_has ⟨rfl, rfl⟩ ⟨Nat.le_of_ble_eq_true rfl, Nat.le_of_ble_eq_true rfl⟩ rfl (Nat.le_of_ble_eq_true rfl) dX9_way_93 (fun r4 M3 h => ?_)
          refine r_if_eq (pc := 96) (tgt := 111) C dX9_way_96 (by decide) (fun c5 => ?_) (fun c5 => ?_)
          · have h := h.1 c5
            refine r_ldc (pc := 111) C aw330 dX9_way_111 ?_
            refine r_sub (lv2 := [(0, .ref (ad X 85)), (2, .int x2), (4, .int x4), (5, .int x5), (6, .int x6)]) [0, 1, 2, 3, 4] rfl ?_
            exact hJ113 _ ih _ _ _ _ _ _ h
          · have h := h.2 c5
            refine r_aload_n (pc := 99) C 0 dX9_way_99 rfl ?_
            refine r_iconst (pc := 100) (v := 0) C dX9_way_100 (by decide) ?_
            refine r_iload (pc := 101) C 4 dX9_way_101 rfl ?_
            refine r_iload (pc := 103) C 2 dX9_way_103 rfl ?_
            have hM := c_X9_behind X  M3 0 x6 x4 _ h
            refine q_s0 (s1 := List.reverse [.int 0, .int x6, .int x4] ++ .ref (ad X 85) :: []) rfl ?_
            refine r_callVi (pc := 105) (k := 85) (As := [.int 0, .int x6, .int x4]) (st := []) C 3 (by decide) (ce85 _) rfl aw492 aw493 hM aw491 aw494 aw5 yd_X9_behind ⟨rfl, rfl⟩ ⟨Nat.le_of_ble_eq_true rfl, Nat.le_of_ble_eq_true rfl⟩ rfl (Nat.le_of_ble_eq_true rfl) dX9_way_105 (fun r7 M6 h => ?_)
            refine r_goto (pc := 108) (tgt := 113) C dX9_way_108 (by decide) ?_
            refine r_sub (lv2 := [(0, .ref (ad X 85)), (2, .int x2), (4, .int x4), (5, .int x5), (6, .int x6)]) [0, 1, 2, 3, 4] rfl ?_
            exact hJ113 _ ih _ _ _ _ _ _ h
  unfold w_X9_way at h
  refine r_aload_n (pc := 0) C 0 dX9_way_0 rfl ?_
  refine r_iload_n (pc := 1) C 1 dX9_way_1 rfl ?_
  have hM := c_X9_isPerson X  M x1 _ h
  refine q_s0 (s1 := List.reverse [.int x1] ++ .ref (ad X 85) :: []) rfl ?_
  refine r_callVi (pc := 2) (k := 85) (As := [.int x1]) (st := []) C 1 (by decide) (ce85 _) rfl aw484 aw485 hM aw483 aw486 aw5 yd_X9_isPerson ⟨rfl, rfl⟩ ⟨Nat.le_of_ble_eq_true rfl, Nat.le_of_ble_eq_true rfl⟩ rfl (Nat.le_of_ble_eq_true rfl) dX9_way_2 (fun r2 M1 h => ?_)
  refine r_if_eq (pc := 5) (tgt := 26) C dX9_way_5 (by decide) (fun c3 => ?_) (fun c3 => ?_)
  · have h := h.1 c3
    refine r_ldc (pc := 26) C aw142 dX9_way_26 ?_
    exact r_iret (pc := 28) C dX9_way_28 h
  · have h := h.2 c3
    refine r_aload_n (pc := 8) C 0 dX9_way_8 rfl ?_
    refine r_iload_n (pc := 9) C 2 dX9_way_9 rfl ?_
    have hM := c_X9_isRoom X  M1 x2 _ h
    refine q_s0 (s1 := List.reverse [.int x2] ++ .ref (ad X 85) :: []) rfl ?_
    refine r_callVi (pc := 10) (k := 85) (As := [.int x2]) (st := []) C 1 (by decide) (ce85 _) rfl aw576 aw577 hM aw575 aw578 aw5 yd_X9_isRoom ⟨rfl, rfl⟩ ⟨Nat.le_of_ble_eq_true rfl, Nat.le_of_ble_eq_true rfl⟩ rfl (Nat.le_of_ble_eq_true rfl) dX9_way_10 (fun r5 M4 h => ?_)
    refine r_if_eq (pc := 13) (tgt := 26) C dX9_way_13 (by decide) (fun c6 => ?_) (fun c6 => ?_)
    · have h := h.1 c6
      refine r_ldc (pc := 26) C aw142 dX9_way_26 ?_
      exact r_iret (pc := 28) C dX9_way_28 h
    · have h := h.2 c6
      refine r_iload_n (pc := 16) C 3 dX9_way_16 rfl ?_
      refine r_i2l (pc := 17) C dX9_way_17 ?_
      refine r_lconst (pc := 18) (v := 0) C dX9_way_18 (by decide) ?_
      refine r_lconst (pc := 19) (v := 1) C dX9_way_19 (by decide) ?_
      have hM := c_X9_in X  M4 (Int32.toInt64 x3) 0 1 _ h
      refine q_s0 (s1 := List.reverse [.long (Int32.toInt64 x3), .long 0, .long 1] ++ []) rfl ?_
      refine r_callSi (pc := 20) (As := [.long (Int32.toInt64 x3), .long 0, .long 1]) (st := []) C 3 hM aw147 aw148 aw149 aw5 yd_X9_in ⟨rfl, rfl⟩ ⟨Nat.le_of_ble_eq_true rfl, Nat.le_of_ble_eq_true rfl⟩ rfl (Nat.le_of_ble_eq_true rfl) dX9_way_20 (fun r8 M7 h => ?_)
      refine r_if_ne (pc := 23) (tgt := 29) C dX9_way_23 (by decide) (fun c9 => ?_) (fun c9 => ?_)
      · have h := h.1 c9
        refine r_aload_n (pc := 29) C 0 dX9_way_29 rfl ?_
        refine r_iload_n (pc := 30) C 1 dX9_way_30 rfl ?_
        have hM := c_X9_layOpen X  M7 x1 _ h
        refine q_s0 (s1 := List.reverse [.int x1] ++ .ref (ad X 85) :: []) rfl ?_
        refine r_callVv (pc := 31) (k := 85) (As := [.int x1]) (st := []) C 1 (by decide) (ce85 _) rfl aw662 aw663 hM aw661 aw664 aw5 yd_X9_layOpen ⟨rfl, rfl⟩ ⟨Nat.le_of_ble_eq_true rfl, Nat.le_of_ble_eq_true rfl⟩ rfl (Nat.le_of_ble_eq_true rfl) dX9_way_31 (fun M10 h => ?_)
        refine r_aload_n (pc := 34) C 0 dX9_way_34 rfl ?_
        refine r_get (pc := 35) (k := 85) (j := 0) (Cn := RX9) (T := TX9) (N := 21) C (by decide) (ce85 _) rfl iaX9 (by decide) aw103 rfl rfl dX9_way_35 ?_
        refine r_bipush (pc := 38) (v := 24) C dX9_way_38 (by decide) ?_
        refine r_iload_n (pc := 40) C 1 dX9_way_40 rfl ?_
        refine r_iadd (pc := 41) C dX9_way_41 ?_
        refine r_topi (fun v12 ev12 => ?_)
        replace h := h v12 ev12
        obtain ⟨g13, h⟩ := h
        refine q_iald (pc := 42) (k := 86) (n := 3528) (j := (Int32.toNatClampNeg v12)) C (by decide) (ce86 _) g13 rfl dX9_way_42 ?_
        refine r_topi (fun v14 ev14 => ?_)
        replace h := h v14 ev14
        refine r_istore (pc := 43) (lv2 := [(4, .int v14), (0, .ref (ad X 85)), (1, .int x1), (2, .int x2), (3, .int x3)]) C dX9_way_43 (by decide) rfl ?_
        refine r_aload_n (pc := 45) C 1 dX9_way_45 rfl ?_
        refine r_iload (pc := 46) C 0 dX9_way_46 rfl ?_
        refine r_iload_n (pc := 48) C 3 dX9_way_48 rfl ?_
        have hM := c_X9_farFrom X  M10 v14 x2 _ h
        refine q_s0 (s1 := List.reverse [.int v14, .int x2] ++ .ref (ad X 85) :: []) rfl ?_
        refine r_callVi (pc := 49) (k := 85) (As := [.int v14, .int x2]) (st := []) C 2 (by decide) (ce85 _) rfl aw668 aw669 hM aw667 aw670 aw5 yd_X9_farFrom ⟨rfl, rfl⟩ ⟨Nat.le_of_ble_eq_true rfl, Nat.le_of_ble_eq_true rfl⟩ rfl (Nat.le_of_ble_eq_true rfl) dX9_way_49 (fun r16 M15 h => ?_)
        refine r_istore (pc := 52) (lv2 := [(5, .int r16), (4, .int v14), (0, .ref (ad X 85)), (1, .int x1), (2, .int x2), (3, .int x3)]) C dX9_way_52 (by decide) rfl ?_
        refine r_iload_n (pc := 54) C 5 dX9_way_54 rfl ?_
        refine r_if_eq (pc := 55) (tgt := 65) C dX9_way_55 (by decide) (fun c17 => ?_) (fun c17 => ?_)
        · have h := h.1 c17
          refine r_iload (pc := 65) C 0 dX9_way_65 rfl ?_
          exact r_iret (pc := 67) C dX9_way_67 h
        · have h := h.2 c17
          refine r_iload (pc := 58) C 0 dX9_way_58 rfl ?_
          refine r_ldc (pc := 60) C aw330 dX9_way_60 ?_
          refine r_icmp_ne (pc := 62) (tgt := 68) C dX9_way_62 (by decide) (fun c18 => ?_) (fun c18 => ?_)
          · have h := h.1 c18
            refine r_iconst (pc := 68) (v := 0) C dX9_way_68 (by decide) ?_
            refine r_istore (pc := 69) (lv2 := [(6, .int 0), (5, .int r16), (4, .int v14), (0, .ref (ad X 85)), (1, .int x1), (2, .int x2), (3, .int x3)]) C dX9_way_69 (by decide) rfl ?_
            obtain ⟨n19, h⟩ := h
            refine r_sub (lv2 := [(0, .ref (ad X 85)), (2, .int x2), (4, .int v14), (5, .int r16), (6, .int 0)]) [3, 5, 2, 1, 0] rfl ?_
            exact hL71  _ _ _ _ _ _ h
          · have h := h.2 c18
            refine r_iload (pc := 65) C 0 dX9_way_65 rfl ?_
            exact r_iret (pc := 67) C dX9_way_67 h
      · have h := h.2 c9
        refine r_ldc (pc := 26) C aw142 dX9_way_26 ?_
        exact r_iret (pc := 28) C dX9_way_28 h
theorem yd_X9_reachOf : yX9_reachOf.cls ≠ "java/lang/invoke/MethodHandle" ∧ yX9_reachOf.cls ≠ "java/lang/invoke/VarHandle" ∧ (parseMethodDescriptor yX9_reachOf.desc).map (fun d => d.parameters.length) = some 1 := by decide +kernel
def wB_X9_reachOf_19  (Q : Int32 → Mem → Prop)  (R19 : Mem → Int32 → Int32 → Prop) (M : Mem) (x2 : Int32) (x3 : Int32) : Prop :=
  ((6 ≤ x3) → (Q x2 M)) ∧ ((¬ 6 ≤ x3) → (w_X9_further  M x2 (fun r3 M2 => ∀ v4 : Int32, v4 = x3 + 1 → (R19 M2 r3 v4))))
def wL_X9_reachOf_19  (Q : Int32 → Mem → Prop)  : Nat → Mem → Int32 → Int32 → Prop
  | 0 => fun _ _ _ => False
  | n + 1 => fun M x2 x3 => wB_X9_reachOf_19  Q  (wL_X9_reachOf_19  Q  n) M x2 x3
theorem wL_X9_reachOf_19_s  {Q : Int32 → Mem → Prop}  {n : Nat} {M : Mem} {x2 : Int32} {x3 : Int32} (h : wL_X9_reachOf_19  Q  (n + 1) M x2 x3) : wB_X9_reachOf_19  Q  (wL_X9_reachOf_19  Q  n) M x2 x3 := h
def w_X9_reachOf  (M : Mem) (x1 : Int32) (Q : Int32 → Mem → Prop) : Prop :=
  w_X9_layOpen  M x1 (fun M1 => ∀ v3 : Int32, v3 = (24 + x1) → (vp_in v3 3528 ∧ (∀ v5 : Int32, v5 = (1 <<< ((M1 86 (Int32.toNatClampNeg v3)) &&& 31)) → (∃ n6 : Nat, wL_X9_reachOf_19  Q  n6 M1 v5 0))))
abbrev rm_X9_reachOf : Room := { frames := 21, cells := 0, slots := 0, locals := 420 }
set_option maxHeartbeats 4000000 in
set_option maxRecDepth 100000 in
theorem c_X9_reachOf (X : Cx)  (M : Mem) (x1 : Int32) (Q : Int32 → Mem → Prop) (h : w_X9_reachOf  M x1 Q) : Ct yX9_reachOf cX9_reachOf 4 (some .int) rm_X9_reachOf X M [.ref (ad X 85), .int x1] (Qi X Q) := by
  refine ct_of (own := RX9) (lv := [(0, .ref (ad X 85)), (1, .int x1)]) rfl (by decide) (Nat.le_of_ble_eq_true rfl) rfl ?_
  intro K C
  have hL19 : ∀  (n : Nat) (M : Mem) (x2 : Int32) (x3 : Int32), wL_X9_reachOf_19  Q  n M x2 x3 → WX K X 4 (Qi X Q) M 19 [(0, .ref (ad X 85)), (2, .int x2), (3, .int x3)] [] := by
    intro  n
    induction n with
    | zero => intro M x2 x3 h; exact absurd h id
    | succ n ih =>
      intro M x2 x3 h
      replace h := wL_X9_reachOf_19_s h
      unfold wB_X9_reachOf_19 at h
      refine r_iload_n (pc := 19) C 2 dX9_reachOf_19 rfl ?_
      refine r_bipush (pc := 20) (v := 6) C dX9_reachOf_20 (by decide) ?_
      refine r_icmp_ge (pc := 22) (tgt := 37) C dX9_reachOf_22 (by decide) (fun c1 => ?_) (fun c1 => ?_)
      · have h := h.1 c1
        refine r_iload_n (pc := 37) C 1 dX9_reachOf_37 rfl ?_
        exact r_iret (pc := 38) C dX9_reachOf_38 h
      · have h := h.2 c1
        refine r_aload_n (pc := 25) C 0 dX9_reachOf_25 rfl ?_
        refine r_iload_n (pc := 26) C 1 dX9_reachOf_26 rfl ?_
        have hM := c_X9_further X  M x2 _ h
        refine q_s0 (s1 := List.reverse [.int x2] ++ .ref (ad X 85) :: []) rfl ?_
        refine r_callVi (pc := 27) (k := 85) (As := [.int x2]) (st := []) C 1 (by decide) (ce85 _) rfl aw672 aw673 hM aw671 aw674 aw5 yd_X9_further ⟨rfl, rfl⟩ ⟨Nat.le_of_ble_eq_true rfl, Nat.le_of_ble_eq_true rfl⟩ rfl (Nat.le_of_ble_eq_true rfl) dX9_reachOf_27 (fun r3 M2 h => ?_)
        refine r_istore_n (pc := 30) (lv2 := [(2, .int r3), (0, .ref (ad X 85)), (3, .int x3)]) C dX9_reachOf_30 (by decide) rfl ?_
        obtain ⟨v4, ev4⟩ : ∃ z : Int32, z = x3 + 1 := ⟨_, rfl⟩
        replace h := h v4 ev4
        refine r_iinc (pc := 31) (v := v4) (lv2 := [(3, .int v4), (2, .int r3), (0, .ref (ad X 85))]) C 2 dX9_reachOf_31 rfl (by rw [ev4]; rfl) (by decide) rfl ?_
        refine r_goto (pc := 34) (tgt := 19) C dX9_reachOf_34 (by decide) ?_
        refine r_sub (lv2 := [(0, .ref (ad X 85)), (2, .int r3), (3, .int v4)]) [2, 1, 0] rfl ?_
        exact ih _ _ _ h
  unfold w_X9_reachOf at h
  refine r_aload_n (pc := 0) C 0 dX9_reachOf_0 rfl ?_
  refine r_iload_n (pc := 1) C 1 dX9_reachOf_1 rfl ?_
  have hM := c_X9_layOpen X  M x1 _ h
  refine q_s0 (s1 := List.reverse [.int x1] ++ .ref (ad X 85) :: []) rfl ?_
  refine r_callVv (pc := 2) (k := 85) (As := [.int x1]) (st := []) C 1 (by decide) (ce85 _) rfl aw662 aw663 hM aw661 aw664 aw5 yd_X9_layOpen ⟨rfl, rfl⟩ ⟨Nat.le_of_ble_eq_true rfl, Nat.le_of_ble_eq_true rfl⟩ rfl (Nat.le_of_ble_eq_true rfl) dX9_reachOf_2 (fun M1 h => ?_)
  refine r_iconst (pc := 5) (v := 1) C dX9_reachOf_5 (by decide) ?_
  refine r_aload_n (pc := 6) C 0 dX9_reachOf_6 rfl ?_
  refine r_get (pc := 7) (k := 85) (j := 0) (Cn := RX9) (T := TX9) (N := 21) C (by decide) (ce85 _) rfl iaX9 (by decide) aw103 rfl rfl dX9_reachOf_7 ?_
  refine r_bipush (pc := 10) (v := 24) C dX9_reachOf_10 (by decide) ?_
  refine r_iload_n (pc := 12) C 1 dX9_reachOf_12 rfl ?_
  refine r_iadd (pc := 13) C dX9_reachOf_13 ?_
  refine r_topi (fun v3 ev3 => ?_)
  replace h := h v3 ev3
  obtain ⟨g4, h⟩ := h
  refine q_iald (pc := 14) (k := 86) (n := 3528) (j := (Int32.toNatClampNeg v3)) C (by decide) (ce86 _) g4 rfl dX9_reachOf_14 ?_
  refine r_ishl (pc := 15) C dX9_reachOf_15 ?_
  refine r_topi (fun v5 ev5 => ?_)
  replace h := h v5 ev5
  refine r_istore_n (pc := 16) (lv2 := [(2, .int v5), (0, .ref (ad X 85)), (1, .int x1)]) C dX9_reachOf_16 (by decide) rfl ?_
  refine r_iconst (pc := 17) (v := 0) C dX9_reachOf_17 (by decide) ?_
  refine r_istore_n (pc := 18) (lv2 := [(3, .int 0), (2, .int v5), (0, .ref (ad X 85)), (1, .int x1)]) C dX9_reachOf_18 (by decide) rfl ?_
  obtain ⟨n6, h⟩ := h
  refine r_sub (lv2 := [(0, .ref (ad X 85)), (2, .int v5), (3, .int 0)]) [2, 1, 0] rfl ?_
  exact hL19  _ _ _ _ h
theorem yd_X9_reach : yX9_reach.cls ≠ "java/lang/invoke/MethodHandle" ∧ yX9_reach.cls ≠ "java/lang/invoke/VarHandle" ∧ (parseMethodDescriptor yX9_reach.desc).map (fun d => d.parameters.length) = some 1 := by decide +kernel
def w_X9_reach  (M : Mem) (x1 : Int32) (Q : Int32 → Mem → Prop) : Prop :=
  w_X9_isPerson  M x1 (fun r2 M1 => ((r2 = 0) → (Q (-1000001) M1)) ∧ ((¬ r2 = 0) → (w_X9_reachOf  M1 x1 (fun r5 M4 => Q r5 M4))))
abbrev rm_X9_reach : Room := { frames := 24, cells := 0, slots := 0, locals := 480 }
set_option maxHeartbeats 4000000 in
set_option maxRecDepth 100000 in
theorem c_X9_reach (X : Cx)  (M : Mem) (x1 : Int32) (Q : Int32 → Mem → Prop) (h : w_X9_reach  M x1 Q) : Ct yX9_reach cX9_reach 2 (some .int) rm_X9_reach X M [.ref (ad X 85), .int x1] (Qi X Q) := by
  refine ct_of (own := RX9) (lv := [(0, .ref (ad X 85)), (1, .int x1)]) rfl (by decide) (Nat.le_of_ble_eq_true rfl) rfl ?_
  intro K C
  unfold w_X9_reach at h
  refine r_aload_n (pc := 0) C 0 dX9_reach_0 rfl ?_
  refine r_iload_n (pc := 1) C 1 dX9_reach_1 rfl ?_
  have hM := c_X9_isPerson X  M x1 _ h
  refine q_s0 (s1 := List.reverse [.int x1] ++ .ref (ad X 85) :: []) rfl ?_
  refine r_callVi (pc := 2) (k := 85) (As := [.int x1]) (st := []) C 1 (by decide) (ce85 _) rfl aw484 aw485 hM aw483 aw486 aw5 yd_X9_isPerson ⟨rfl, rfl⟩ ⟨Nat.le_of_ble_eq_true rfl, Nat.le_of_ble_eq_true rfl⟩ rfl (Nat.le_of_ble_eq_true rfl) dX9_reach_2 (fun r2 M1 h => ?_)
  refine r_if_eq (pc := 5) (tgt := 16) C dX9_reach_5 (by decide) (fun c3 => ?_) (fun c3 => ?_)
  · have h := h.1 c3
    refine r_ldc (pc := 16) C aw142 dX9_reach_16 ?_
    exact r_iret (pc := 18) C dX9_reach_18 h
  · have h := h.2 c3
    refine r_aload_n (pc := 8) C 0 dX9_reach_8 rfl ?_
    refine r_iload_n (pc := 9) C 1 dX9_reach_9 rfl ?_
    have hM := c_X9_reachOf X  M1 x1 _ h
    refine q_s0 (s1 := List.reverse [.int x1] ++ .ref (ad X 85) :: []) rfl ?_
    refine r_callVi (pc := 10) (k := 85) (As := [.int x1]) (st := []) C 1 (by decide) (ce85 _) rfl aw691 aw692 hM aw690 aw693 aw5 yd_X9_reachOf ⟨rfl, rfl⟩ ⟨Nat.le_of_ble_eq_true rfl, Nat.le_of_ble_eq_true rfl⟩ rfl (Nat.le_of_ble_eq_true rfl) dX9_reach_10 (fun r5 M4 h => ?_)
    refine r_goto (pc := 13) (tgt := 18) C dX9_reach_13 (by decide) ?_
    exact r_iret (pc := 18) C dX9_reach_18 h
theorem yd_X9_locked : yX9_locked.cls ≠ "java/lang/invoke/MethodHandle" ∧ yX9_locked.cls ≠ "java/lang/invoke/VarHandle" ∧ (parseMethodDescriptor yX9_locked.desc).map (fun d => d.parameters.length) = some 0 := by decide +kernel
def wB_X9_locked_16  (Q : Int32 → Mem → Prop)  (R16 : Mem → Int32 → Int32 → Prop) (M : Mem) (x1 : Int32) (x2 : Int32) : Prop :=
  (((M 86 3) ≤ x2) → (Q x1 M)) ∧ ((¬ (M 86 3) ≤ x2) → (w_X9_reachOf  M x2 (fun r3 M2 => w_X9_bits  M2 r3 (fun r5 M4 => ((¬ r5 = 1) → (∀ v7 : Int32, v7 = (x1 ||| 0) → (∀ v8 : Int32, v8 = x2 + 1 → (R16 M4 v7 v8)))) ∧ ((r5 = 1) → (∀ v9 : Int32, v9 = (x1 ||| (1 <<< (x2 &&& 31))) → (∀ v10 : Int32, v10 = x2 + 1 → (R16 M4 v9 v10))))))))
def wL_X9_locked_16  (Q : Int32 → Mem → Prop)  : Nat → Mem → Int32 → Int32 → Prop
  | 0 => fun _ _ _ => False
  | n + 1 => fun M x1 x2 => wB_X9_locked_16  Q  (wL_X9_locked_16  Q  n) M x1 x2
theorem wL_X9_locked_16_s  {Q : Int32 → Mem → Prop}  {n : Nat} {M : Mem} {x1 : Int32} {x2 : Int32} (h : wL_X9_locked_16  Q  (n + 1) M x1 x2) : wB_X9_locked_16  Q  (wL_X9_locked_16  Q  n) M x1 x2 := h
def w_X9_locked  (M : Mem)  (Q : Int32 → Mem → Prop) : Prop :=
  ((¬ (M 86 3) = 0) → (∃ n2 : Nat, wL_X9_locked_16  Q  n2 M 0 0)) ∧ (((M 86 3) = 0) → (Q (-1000002) M))
abbrev rm_X9_locked : Room := { frames := 24, cells := 0, slots := 0, locals := 480 }
set_option maxHeartbeats 4000000 in
set_option maxRecDepth 100000 in
theorem c_X9_locked (X : Cx)  (M : Mem)  (Q : Int32 → Mem → Prop) (h : w_X9_locked  M  Q) : Ct yX9_locked cX9_locked 3 (some .int) rm_X9_locked X M [.ref (ad X 85)] (Qi X Q) := by
  refine ct_of (own := RX9) (lv := [(0, .ref (ad X 85))]) rfl (by decide) (Nat.le_of_ble_eq_true rfl) rfl ?_
  intro K C
  have hL16 : ∀  (n : Nat) (M : Mem) (x1 : Int32) (x2 : Int32), wL_X9_locked_16  Q  n M x1 x2 → WX K X 3 (Qi X Q) M 16 [(0, .ref (ad X 85)), (1, .int x1), (2, .int x2)] [] := by
    intro  n
    induction n with
    | zero => intro M x1 x2 h; exact absurd h id
    | succ n ih =>
      intro M x1 x2 h
      replace h := wL_X9_locked_16_s h
      unfold wB_X9_locked_16 at h
      refine r_iload_n (pc := 16) C 2 dX9_locked_16 rfl ?_
      refine r_aload_n (pc := 17) C 0 dX9_locked_17 rfl ?_
      refine r_get (pc := 18) (k := 85) (j := 0) (Cn := RX9) (T := TX9) (N := 21) C (by decide) (ce85 _) rfl iaX9 (by decide) aw103 rfl rfl dX9_locked_18 ?_
      refine r_iconst (pc := 21) (v := 3) C dX9_locked_21 (by decide) ?_
      refine q_iald (pc := 22) (k := 86) (n := 3528) (j := 3) C (by decide) (ce86 _) (in_lit (by decide)) (by decide) dX9_locked_22 ?_
      refine r_icmp_ge (pc := 23) (tgt := 54) C dX9_locked_23 (by decide) (fun c1 => ?_) (fun c1 => ?_)
      · have h := h.1 c1
        refine r_iload_n (pc := 54) C 1 dX9_locked_54 rfl ?_
        exact r_iret (pc := 55) C dX9_locked_55 h
      · have h := h.2 c1
        refine r_iload_n (pc := 26) C 1 dX9_locked_26 rfl ?_
        refine r_aload_n (pc := 27) C 0 dX9_locked_27 rfl ?_
        refine r_iload_n (pc := 28) C 2 dX9_locked_28 rfl ?_
        have hM := c_X9_reachOf X  M x2 _ h
        refine q_s0 (s1 := List.reverse [.int x2] ++ .ref (ad X 85) :: [.int x1]) rfl ?_
        refine r_callVi (pc := 29) (k := 85) (As := [.int x2]) (st := [.int x1]) C 1 (by decide) (ce85 _) rfl aw691 aw692 hM aw690 aw693 aw5 yd_X9_reachOf ⟨rfl, rfl⟩ ⟨Nat.le_of_ble_eq_true rfl, Nat.le_of_ble_eq_true rfl⟩ rfl (Nat.le_of_ble_eq_true rfl) dX9_locked_29 (fun r3 M2 h => ?_)
        have hM := c_X9_bits X  M2 r3 _ h
        refine q_s0 (s1 := List.reverse [.int r3] ++ [.int x1]) rfl ?_
        refine r_callSi (pc := 32) (As := [.int r3]) (st := [.int x1]) C 1 hM aw702 aw703 aw704 aw5 yd_X9_bits ⟨rfl, rfl⟩ ⟨Nat.le_of_ble_eq_true rfl, Nat.le_of_ble_eq_true rfl⟩ rfl (Nat.le_of_ble_eq_true rfl) dX9_locked_32 (fun r5 M4 h => ?_)
        refine r_iconst (pc := 35) (v := 1) C dX9_locked_35 (by decide) ?_
        refine r_icmp_ne (pc := 36) (tgt := 45) C dX9_locked_36 (by decide) (fun c6 => ?_) (fun c6 => ?_)
        · have h := h.1 c6
          refine r_iconst (pc := 45) (v := 0) C dX9_locked_45 (by decide) ?_
          refine r_ior (pc := 46) C dX9_locked_46 ?_
          refine r_topi (fun v7 ev7 => ?_)
          replace h := h v7 ev7
          refine r_istore_n (pc := 47) (lv2 := [(1, .int v7), (0, .ref (ad X 85)), (2, .int x2)]) C dX9_locked_47 (by decide) rfl ?_
          obtain ⟨v8, ev8⟩ : ∃ z : Int32, z = x2 + 1 := ⟨_, rfl⟩
          replace h := h v8 ev8
          refine r_iinc (pc := 48) (v := v8) (lv2 := [(2, .int v8), (1, .int v7), (0, .ref (ad X 85))]) C 2 dX9_locked_48 rfl (by rw [ev8]; rfl) (by decide) rfl ?_
          refine r_goto (pc := 51) (tgt := 16) C dX9_locked_51 (by decide) ?_
          refine r_sub (lv2 := [(0, .ref (ad X 85)), (1, .int v7), (2, .int v8)]) [2, 1, 0] rfl ?_
          exact ih _ _ _ h
        · have h := h.2 c6
          refine r_iconst (pc := 39) (v := 1) C dX9_locked_39 (by decide) ?_
          refine r_iload_n (pc := 40) C 2 dX9_locked_40 rfl ?_
          refine r_ishl (pc := 41) C dX9_locked_41 ?_
          refine r_goto (pc := 42) (tgt := 46) C dX9_locked_42 (by decide) ?_
          refine r_ior (pc := 46) C dX9_locked_46 ?_
          refine r_topi (fun v9 ev9 => ?_)
          replace h := h v9 ev9
          refine r_istore_n (pc := 47) (lv2 := [(1, .int v9), (0, .ref (ad X 85)), (2, .int x2)]) C dX9_locked_47 (by decide) rfl ?_
          obtain ⟨v10, ev10⟩ : ∃ z : Int32, z = x2 + 1 := ⟨_, rfl⟩
          replace h := h v10 ev10
          refine r_iinc (pc := 48) (v := v10) (lv2 := [(2, .int v10), (1, .int v9), (0, .ref (ad X 85))]) C 2 dX9_locked_48 rfl (by rw [ev10]; rfl) (by decide) rfl ?_
          refine r_goto (pc := 51) (tgt := 16) C dX9_locked_51 (by decide) ?_
          refine r_sub (lv2 := [(0, .ref (ad X 85)), (1, .int v9), (2, .int v10)]) [2, 1, 0] rfl ?_
          exact ih _ _ _ h
  unfold w_X9_locked at h
  refine r_aload_n (pc := 0) C 0 dX9_locked_0 rfl ?_
  refine r_get (pc := 1) (k := 85) (j := 0) (Cn := RX9) (T := TX9) (N := 21) C (by decide) (ce85 _) rfl iaX9 (by decide) aw103 rfl rfl dX9_locked_1 ?_
  refine r_iconst (pc := 4) (v := 3) C dX9_locked_4 (by decide) ?_
  refine q_iald (pc := 5) (k := 86) (n := 3528) (j := 3) C (by decide) (ce86 _) (in_lit (by decide)) (by decide) dX9_locked_5 ?_
  refine r_if_ne (pc := 6) (tgt := 12) C dX9_locked_6 (by decide) (fun c1 => ?_) (fun c1 => ?_)
  · have h := h.1 c1
    refine r_iconst (pc := 12) (v := 0) C dX9_locked_12 (by decide) ?_
    refine r_istore_n (pc := 13) (lv2 := [(1, .int 0), (0, .ref (ad X 85))]) C dX9_locked_13 (by decide) rfl ?_
    refine r_iconst (pc := 14) (v := 0) C dX9_locked_14 (by decide) ?_
    refine r_istore_n (pc := 15) (lv2 := [(2, .int 0), (1, .int 0), (0, .ref (ad X 85))]) C dX9_locked_15 (by decide) rfl ?_
    obtain ⟨n2, h⟩ := h
    refine r_sub (lv2 := [(0, .ref (ad X 85)), (1, .int 0), (2, .int 0)]) [2, 1, 0] rfl ?_
    exact hL16  _ _ _ _ h
  · have h := h.2 c1
    refine r_ldc (pc := 9) C aw408 dX9_locked_9 ?_
    exact r_iret (pc := 11) C dX9_locked_11 h
theorem yd_X9_giftsFor : yX9_giftsFor.cls ≠ "java/lang/invoke/MethodHandle" ∧ yX9_giftsFor.cls ≠ "java/lang/invoke/VarHandle" ∧ (parseMethodDescriptor yX9_giftsFor.desc).map (fun d => d.parameters.length) = some 3 := by decide +kernel
def wJ_X9_giftsFor_23  (Q : Int32 → Mem → Prop)  (M : Mem) (s0 : Int32) : Prop :=
  ((0 ≤ s0) → (Q s0 M)) ∧ ((¬ 0 ≤ s0) → (Q 0 M))
def w_X9_giftsFor  (M : Mem) (x1 : Int32) (x2 : Int32) (x3 : Int32) (Q : Int32 → Mem → Prop) : Prop :=
  w_X9_plainFavour  M 0 x1 x2 (fun r2 M1 => ((¬ x3 = 0) → (wJ_X9_giftsFor_23  Q  M1 ((x3 - 1) - r2))) ∧ ((x3 = 0) → (wJ_X9_giftsFor_23  Q  M1 0)))
abbrev rm_X9_giftsFor : Room := { frames := 9, cells := 0, slots := 0, locals := 180 }
set_option maxHeartbeats 4000000 in
set_option maxRecDepth 100000 in
theorem c_X9_giftsFor (X : Cx)  (M : Mem) (x1 : Int32) (x2 : Int32) (x3 : Int32) (Q : Int32 → Mem → Prop) (h : w_X9_giftsFor  M x1 x2 x3 Q) : Ct yX9_giftsFor cX9_giftsFor 6 (some .int) rm_X9_giftsFor X M [.ref (ad X 85), .int x1, .int x2, .int x3] (Qi X Q) := by
  refine ct_of (own := RX9) (lv := [(0, .ref (ad X 85)), (1, .int x1), (2, .int x2), (3, .int x3)]) rfl (by decide) (Nat.le_of_ble_eq_true rfl) rfl ?_
  intro K C
  have hJ23 : ∀  (M : Mem) (s0 : Int32), wJ_X9_giftsFor_23  Q  M s0 → WX K X 6 (Qi X Q) M 23 [] [.int s0] := by
    intro  M s0 h
    unfold wJ_X9_giftsFor_23 at h
    refine r_istore (pc := 23) (lv2 := [(5, .int s0)]) C dX9_giftsFor_23 (by decide) rfl ?_
    refine r_iload (pc := 25) C 0 dX9_giftsFor_25 rfl ?_
    refine r_if_ge (pc := 27) (tgt := 34) C dX9_giftsFor_27 (by decide) (fun c1 => ?_) (fun c1 => ?_)
    · have h := h.1 c1
      refine r_iload (pc := 34) C 0 dX9_giftsFor_34 rfl ?_
      exact r_iret (pc := 36) C dX9_giftsFor_36 h
    · have h := h.2 c1
      refine r_iconst (pc := 30) (v := 0) C dX9_giftsFor_30 (by decide) ?_
      refine r_goto (pc := 31) (tgt := 36) C dX9_giftsFor_31 (by decide) ?_
      exact r_iret (pc := 36) C dX9_giftsFor_36 h
  unfold w_X9_giftsFor at h
  refine r_aload_n (pc := 0) C 0 dX9_giftsFor_0 rfl ?_
  refine r_iconst (pc := 1) (v := 0) C dX9_giftsFor_1 (by decide) ?_
  refine r_iload_n (pc := 2) C 1 dX9_giftsFor_2 rfl ?_
  refine r_iload_n (pc := 3) C 2 dX9_giftsFor_3 rfl ?_
  have hM := c_X9_plainFavour X  M 0 x1 x2 _ h
  refine q_s0 (s1 := List.reverse [.int 0, .int x1, .int x2] ++ .ref (ad X 85) :: []) rfl ?_
  refine r_callVi (pc := 4) (k := 85) (As := [.int 0, .int x1, .int x2]) (st := []) C 3 (by decide) (ce85 _) rfl aw521 aw522 hM aw520 aw523 aw5 yd_X9_plainFavour ⟨rfl, rfl⟩ ⟨Nat.le_of_ble_eq_true rfl, Nat.le_of_ble_eq_true rfl⟩ rfl (Nat.le_of_ble_eq_true rfl) dX9_giftsFor_4 (fun r2 M1 h => ?_)
  refine r_istore (pc := 7) (lv2 := [(4, .int r2), (0, .ref (ad X 85)), (1, .int x1), (2, .int x2), (3, .int x3)]) C dX9_giftsFor_7 (by decide) rfl ?_
  refine r_iload_n (pc := 9) C 4 dX9_giftsFor_9 rfl ?_
  refine r_if_ne (pc := 10) (tgt := 17) C dX9_giftsFor_10 (by decide) (fun c3 => ?_) (fun c3 => ?_)
  · have h := h.1 c3
    refine r_iload_n (pc := 17) C 4 dX9_giftsFor_17 rfl ?_
    refine r_iconst (pc := 18) (v := 1) C dX9_giftsFor_18 (by decide) ?_
    refine r_isub (pc := 19) C dX9_giftsFor_19 ?_
    refine r_iload (pc := 20) C 0 dX9_giftsFor_20 rfl ?_
    refine r_isub (pc := 22) C dX9_giftsFor_22 ?_
    refine r_sub (lv2 := []) [] rfl ?_
    exact hJ23  _ _ h
  · have h := h.2 c3
    refine r_iconst (pc := 13) (v := 0) C dX9_giftsFor_13 (by decide) ?_
    refine r_goto (pc := 14) (tgt := 23) C dX9_giftsFor_14 (by decide) ?_
    refine r_sub (lv2 := []) [] rfl ?_
    exact hJ23  _ _ h
theorem yd_X9_pollOf : yX9_pollOf.cls ≠ "java/lang/invoke/MethodHandle" ∧ yX9_pollOf.cls ≠ "java/lang/invoke/VarHandle" ∧ (parseMethodDescriptor yX9_pollOf.desc).map (fun d => d.parameters.length) = some 3 := by decide +kernel
def wJ_X9_pollOf_81  (Q : Int32 → Mem → Prop) (R9 : Mem → Int32 → Int32 → Int32 → Int32 → Int32 → Prop) (M : Mem) (x1 : Int32) (x2 : Int32) (x4 : Int32) (x5 : Int32) (x6 : Int32) (s0 : Int32) : Prop :=
  ((¬ x6 = x1) → (((s0 ≤ 0) → (((0 ≤ s0) → (∀ v4 : Int32, v4 = (x4 + 0) → (∀ v5 : Int32, v5 = (x5 / 3) → (∀ v6 : Int32, v6 = x6 + 1 → (R9 M x1 x2 v4 v5 v6))))) ∧ ((¬ 0 ≤ s0) → (w_X9_weightOf  M 0 x6 x2 (fun r8 M7 => ∀ v9 : Int32, v9 = (x4 + (-r8)) → (∀ v10 : Int32, v10 = (x5 / 3) → (∀ v11 : Int32, v11 = x6 + 1 → (R9 M7 x1 x2 v9 v10 v11)))))))) ∧ ((¬ s0 ≤ 0) → (w_X9_weightOf  M 0 x6 x2 (fun r13 M12 => ∀ v14 : Int32, v14 = (x4 + r13) → (∀ v15 : Int32, v15 = (x5 / 3) → (∀ v16 : Int32, v16 = x6 + 1 → (R9 M12 x1 x2 v14 v15 v16)))))))) ∧ ((x6 = x1) → (∀ v17 : Int32, v17 = (x4 + 0) → (∀ v18 : Int32, v18 = (x5 / 3) → (∀ v19 : Int32, v19 = x6 + 1 → (R9 M x1 x2 v17 v18 v19)))))
def wJ_X9_pollOf_79  (Q : Int32 → Mem → Prop) (R9 : Mem → Int32 → Int32 → Int32 → Int32 → Int32 → Prop) (M : Mem) (x1 : Int32) (x2 : Int32) (x4 : Int32) (x5 : Int32) (x6 : Int32) (x8 : Int32) : Prop :=
  wJ_X9_pollOf_81  Q R9 M x1 x2 x4 x5 x6 x8
def wJ_X9_pollOf_41  (Q : Int32 → Mem → Prop) (R9 : Mem → Int32 → Int32 → Int32 → Int32 → Int32 → Prop) (M : Mem) (x1 : Int32) (x2 : Int32) (x4 : Int32) (x5 : Int32) (x6 : Int32) (s0 : Int32) : Prop :=
  w_X9_plainFavour  M 0 x6 x1 (fun r2 M1 => ∀ v3 : Int32, v3 = (r2 + s0) → (((0 ≤ v3) → (wJ_X9_pollOf_79  Q R9 M1 x1 x2 x4 x5 x6 v3)) ∧ ((¬ 0 ≤ v3) → (∀ v5 : Int32, v5 = (18 + x6) → (vp_in v5 3528 ∧ (((¬ (M1 86 (Int32.toNatClampNeg v5)) = 5) → (wJ_X9_pollOf_79  Q R9 M1 x1 x2 x4 x5 x6 v3)) ∧ (((M1 86 (Int32.toNatClampNeg v5)) = 5) → (wJ_X9_pollOf_81  Q R9 M1 x1 x2 x4 x5 x6 0))))))))
def wB_X9_pollOf_9  (Q : Int32 → Mem → Prop)  (R9 : Mem → Int32 → Int32 → Int32 → Int32 → Int32 → Prop) (M : Mem) (x1 : Int32) (x2 : Int32) (x4 : Int32) (x5 : Int32) (x6 : Int32) : Prop :=
  (((M 86 3) ≤ x6) → (Q x4 M)) ∧ ((¬ (M 86 3) ≤ x6) → (((¬ x6 = x1) → (w_X9_giftsFor  M x6 x1 (x5 - x5 / 3 * 3) (fun r4 M3 => wJ_X9_pollOf_41  Q R9 M3 x1 x2 x4 x5 x6 r4))) ∧ ((x6 = x1) → (wJ_X9_pollOf_41  Q R9 M x1 x2 x4 x5 x6 0))))
def wL_X9_pollOf_9  (Q : Int32 → Mem → Prop)  : Nat → Mem → Int32 → Int32 → Int32 → Int32 → Int32 → Prop
  | 0 => fun _ _ _ _ _ _ => False
  | n + 1 => fun M x1 x2 x4 x5 x6 => wB_X9_pollOf_9  Q  (wL_X9_pollOf_9  Q  n) M x1 x2 x4 x5 x6
theorem wL_X9_pollOf_9_s  {Q : Int32 → Mem → Prop}  {n : Nat} {M : Mem} {x1 : Int32} {x2 : Int32} {x4 : Int32} {x5 : Int32} {x6 : Int32} (h : wL_X9_pollOf_9  Q  (n + 1) M x1 x2 x4 x5 x6) : wB_X9_pollOf_9  Q  (wL_X9_pollOf_9  Q  n) M x1 x2 x4 x5 x6 := h
def w_X9_pollOf  (M : Mem) (x1 : Int32) (x2 : Int32) (x3 : Int32) (Q : Int32 → Mem → Prop) : Prop :=
  ∃ n1 : Nat, wL_X9_pollOf_9  Q  n1 M x1 x2 0 x3 0
abbrev rm_X9_pollOf : Room := { frames := 12, cells := 0, slots := 0, locals := 240 }
set_option maxHeartbeats 4000000 in
set_option maxRecDepth 100000 in
theorem c_X9_pollOf (X : Cx)  (M : Mem) (x1 : Int32) (x2 : Int32) (x3 : Int32) (Q : Int32 → Mem → Prop) (h : w_X9_pollOf  M x1 x2 x3 Q) : Ct yX9_pollOf cX9_pollOf 9 (some .int) rm_X9_pollOf X M [.ref (ad X 85), .int x1, .int x2, .int x3] (Qi X Q) := by
  refine ct_of (own := RX9) (lv := [(0, .ref (ad X 85)), (1, .int x1), (2, .int x2), (3, .int x3)]) rfl (by decide) (Nat.le_of_ble_eq_true rfl) rfl ?_
  intro K C
  have hJ81 : ∀ (R9 : Mem → Int32 → Int32 → Int32 → Int32 → Int32 → Prop) (hR9 : ∀ (M : Mem) (x1 : Int32) (x2 : Int32) (x4 : Int32) (x5 : Int32) (x6 : Int32), R9 M x1 x2 x4 x5 x6 → WX K X 9 (Qi X Q) M 9 [(0, .ref (ad X 85)), (1, .int x1), (2, .int x2), (4, .int x4), (5, .int x5), (6, .int x6)] []) (M : Mem) (x1 : Int32) (x2 : Int32) (x4 : Int32) (x5 : Int32) (x6 : Int32) (s0 : Int32), wJ_X9_pollOf_81  Q R9 M x1 x2 x4 x5 x6 s0 → WX K X 9 (Qi X Q) M 81 [(0, .ref (ad X 85)), (1, .int x1), (2, .int x2), (4, .int x4), (5, .int x5), (6, .int x6)] [.int s0] := by
    intro R9 hR9 M x1 x2 x4 x5 x6 s0 h
    unfold wJ_X9_pollOf_81 at h
    refine r_istore (pc := 81) (lv2 := [(8, .int s0), (0, .ref (ad X 85)), (1, .int x1), (2, .int x2), (4, .int x4), (5, .int x5), (6, .int x6)]) C dX9_pollOf_81 (by decide) rfl ?_
    refine r_iload (pc := 83) C 4 dX9_pollOf_83 rfl ?_
    refine r_iload (pc := 85) C 6 dX9_pollOf_85 rfl ?_
    refine r_iload_n (pc := 87) C 2 dX9_pollOf_87 rfl ?_
    refine r_icmp_ne (pc := 88) (tgt := 95) C dX9_pollOf_88 (by decide) (fun c1 => ?_) (fun c1 => ?_)
    · have h := h.1 c1
      refine r_iload (pc := 95) C 0 dX9_pollOf_95 rfl ?_
      refine r_if_le (pc := 97) (tgt := 111) C dX9_pollOf_97 (by decide) (fun c2 => ?_) (fun c2 => ?_)
      · have h := h.1 c2
        refine r_iload (pc := 111) C 0 dX9_pollOf_111 rfl ?_
        refine r_if_ge (pc := 113) (tgt := 128) C dX9_pollOf_113 (by decide) (fun c3 => ?_) (fun c3 => ?_)
        · have h := h.1 c3
          refine r_iconst (pc := 128) (v := 0) C dX9_pollOf_128 (by decide) ?_
          refine r_iadd (pc := 129) C dX9_pollOf_129 ?_
          refine r_topi (fun v4 ev4 => ?_)
          replace h := h v4 ev4
          refine r_istore (pc := 130) (lv2 := [(4, .int v4), (8, .int s0), (0, .ref (ad X 85)), (1, .int x1), (2, .int x2), (5, .int x5), (6, .int x6)]) C dX9_pollOf_130 (by decide) rfl ?_
          refine r_iload (pc := 132) C 5 dX9_pollOf_132 rfl ?_
          refine r_iconst (pc := 134) (v := 3) C dX9_pollOf_134 (by decide) ?_
          refine r_idiv (pc := 135) C dX9_pollOf_135 (by decide) ?_
          refine r_topi (fun v5 ev5 => ?_)
          replace h := h v5 ev5
          refine r_istore (pc := 136) (lv2 := [(5, .int v5), (4, .int v4), (8, .int s0), (0, .ref (ad X 85)), (1, .int x1), (2, .int x2), (6, .int x6)]) C dX9_pollOf_136 (by decide) rfl ?_
          obtain ⟨v6, ev6⟩ : ∃ z : Int32, z = x6 + 1 := ⟨_, rfl⟩
          replace h := h v6 ev6
          refine r_iinc (pc := 138) (v := v6) (lv2 := [(6, .int v6), (5, .int v5), (4, .int v4), (8, .int s0), (0, .ref (ad X 85)), (1, .int x1), (2, .int x2)]) C 6 dX9_pollOf_138 rfl (by rw [ev6]; rfl) (by decide) rfl ?_
          refine r_goto (pc := 141) (tgt := 9) C dX9_pollOf_141 (by decide) ?_
          refine r_sub (lv2 := [(0, .ref (ad X 85)), (1, .int x1), (2, .int x2), (4, .int v4), (5, .int v5), (6, .int v6)]) [4, 5, 6, 2, 1, 0] rfl ?_
          exact hR9 _ _ _ _ _ _ h
        · have h := h.2 c3
          refine r_aload_n (pc := 116) C 1 dX9_pollOf_116 rfl ?_
          refine r_iconst (pc := 117) (v := 0) C dX9_pollOf_117 (by decide) ?_
          refine r_iload (pc := 118) C 6 dX9_pollOf_118 rfl ?_
          refine r_iload_n (pc := 120) C 3 dX9_pollOf_120 rfl ?_
          have hM := c_X9_weightOf X  M 0 x6 x2 _ h
          refine q_s0 (s1 := List.reverse [.int 0, .int x6, .int x2] ++ .ref (ad X 85) :: [.int x4]) rfl ?_
          refine r_callVi (pc := 121) (k := 85) (As := [.int 0, .int x6, .int x2]) (st := [.int x4]) C 3 (by decide) (ce85 _) rfl aw525 aw526 hM aw524 aw527 aw5 yd_X9_weightOf ⟨rfl, rfl⟩ ⟨Nat.le_of_ble_eq_true rfl, Nat.le_of_ble_eq_true rfl⟩ rfl (Nat.le_of_ble_eq_true rfl) dX9_pollOf_121 (fun r8 M7 h => ?_)
          refine r_ineg (pc := 124) C dX9_pollOf_124 ?_
          refine r_goto (pc := 125) (tgt := 129) C dX9_pollOf_125 (by decide) ?_
          refine r_iadd (pc := 129) C dX9_pollOf_129 ?_
          refine r_topi (fun v9 ev9 => ?_)
          replace h := h v9 ev9
          refine r_istore (pc := 130) (lv2 := [(4, .int v9), (8, .int s0), (0, .ref (ad X 85)), (1, .int x1), (2, .int x2), (5, .int x5), (6, .int x6)]) C dX9_pollOf_130 (by decide) rfl ?_
          refine r_iload (pc := 132) C 5 dX9_pollOf_132 rfl ?_
          refine r_iconst (pc := 134) (v := 3) C dX9_pollOf_134 (by decide) ?_
          refine r_idiv (pc := 135) C dX9_pollOf_135 (by decide) ?_
          refine r_topi (fun v10 ev10 => ?_)
          replace h := h v10 ev10
          refine r_istore (pc := 136) (lv2 := [(5, .int v10), (4, .int v9), (8, .int s0), (0, .ref (ad X 85)), (1, .int x1), (2, .int x2), (6, .int x6)]) C dX9_pollOf_136 (by decide) rfl ?_
          obtain ⟨v11, ev11⟩ : ∃ z : Int32, z = x6 + 1 := ⟨_, rfl⟩
          replace h := h v11 ev11
          refine r_iinc (pc := 138) (v := v11) (lv2 := [(6, .int v11), (5, .int v10), (4, .int v9), (8, .int s0), (0, .ref (ad X 85)), (1, .int x1), (2, .int x2)]) C 6 dX9_pollOf_138 rfl (by rw [ev11]; rfl) (by decide) rfl ?_
          refine r_goto (pc := 141) (tgt := 9) C dX9_pollOf_141 (by decide) ?_
          refine r_sub (lv2 := [(0, .ref (ad X 85)), (1, .int x1), (2, .int x2), (4, .int v9), (5, .int v10), (6, .int v11)]) [4, 5, 6, 2, 1, 0] rfl ?_
          exact hR9 _ _ _ _ _ _ h
      · have h := h.2 c2
        refine r_aload_n (pc := 100) C 1 dX9_pollOf_100 rfl ?_
        refine r_iconst (pc := 101) (v := 0) C dX9_pollOf_101 (by decide) ?_
        refine r_iload (pc := 102) C 6 dX9_pollOf_102 rfl ?_
        refine r_iload_n (pc := 104) C 3 dX9_pollOf_104 rfl ?_
        have hM := c_X9_weightOf X  M 0 x6 x2 _ h
        refine q_s0 (s1 := List.reverse [.int 0, .int x6, .int x2] ++ .ref (ad X 85) :: [.int x4]) rfl ?_
        refine r_callVi (pc := 105) (k := 85) (As := [.int 0, .int x6, .int x2]) (st := [.int x4]) C 3 (by decide) (ce85 _) rfl aw525 aw526 hM aw524 aw527 aw5 yd_X9_weightOf ⟨rfl, rfl⟩ ⟨Nat.le_of_ble_eq_true rfl, Nat.le_of_ble_eq_true rfl⟩ rfl (Nat.le_of_ble_eq_true rfl) dX9_pollOf_105 (fun r13 M12 h => ?_)
        refine r_goto (pc := 108) (tgt := 129) C dX9_pollOf_108 (by decide) ?_
        refine r_iadd (pc := 129) C dX9_pollOf_129 ?_
        refine r_topi (fun v14 ev14 => ?_)
        replace h := h v14 ev14
        refine r_istore (pc := 130) (lv2 := [(4, .int v14), (8, .int s0), (0, .ref (ad X 85)), (1, .int x1), (2, .int x2), (5, .int x5), (6, .int x6)]) C dX9_pollOf_130 (by decide) rfl ?_
        refine r_iload (pc := 132) C 5 dX9_pollOf_132 rfl ?_
        refine r_iconst (pc := 134) (v := 3) C dX9_pollOf_134 (by decide) ?_
        refine r_idiv (pc := 135) C dX9_pollOf_135 (by decide) ?_
        refine r_topi (fun v15 ev15 => ?_)
        replace h := h v15 ev15
        refine r_istore (pc := 136) (lv2 := [(5, .int v15), (4, .int v14), (8, .int s0), (0, .ref (ad X 85)), (1, .int x1), (2, .int x2), (6, .int x6)]) C dX9_pollOf_136 (by decide) rfl ?_
        obtain ⟨v16, ev16⟩ : ∃ z : Int32, z = x6 + 1 := ⟨_, rfl⟩
        replace h := h v16 ev16
        refine r_iinc (pc := 138) (v := v16) (lv2 := [(6, .int v16), (5, .int v15), (4, .int v14), (8, .int s0), (0, .ref (ad X 85)), (1, .int x1), (2, .int x2)]) C 6 dX9_pollOf_138 rfl (by rw [ev16]; rfl) (by decide) rfl ?_
        refine r_goto (pc := 141) (tgt := 9) C dX9_pollOf_141 (by decide) ?_
        refine r_sub (lv2 := [(0, .ref (ad X 85)), (1, .int x1), (2, .int x2), (4, .int v14), (5, .int v15), (6, .int v16)]) [4, 5, 6, 2, 1, 0] rfl ?_
        exact hR9 _ _ _ _ _ _ h
    · have h := h.2 c1
      refine r_iconst (pc := 91) (v := 0) C dX9_pollOf_91 (by decide) ?_
      refine r_goto (pc := 92) (tgt := 129) C dX9_pollOf_92 (by decide) ?_
      refine r_iadd (pc := 129) C dX9_pollOf_129 ?_
      refine r_topi (fun v17 ev17 => ?_)
      replace h := h v17 ev17
      refine r_istore (pc := 130) (lv2 := [(4, .int v17), (8, .int s0), (0, .ref (ad X 85)), (1, .int x1), (2, .int x2), (5, .int x5), (6, .int x6)]) C dX9_pollOf_130 (by decide) rfl ?_
      refine r_iload (pc := 132) C 5 dX9_pollOf_132 rfl ?_
      refine r_iconst (pc := 134) (v := 3) C dX9_pollOf_134 (by decide) ?_
      refine r_idiv (pc := 135) C dX9_pollOf_135 (by decide) ?_
      refine r_topi (fun v18 ev18 => ?_)
      replace h := h v18 ev18
      refine r_istore (pc := 136) (lv2 := [(5, .int v18), (4, .int v17), (8, .int s0), (0, .ref (ad X 85)), (1, .int x1), (2, .int x2), (6, .int x6)]) C dX9_pollOf_136 (by decide) rfl ?_
      obtain ⟨v19, ev19⟩ : ∃ z : Int32, z = x6 + 1 := ⟨_, rfl⟩
      replace h := h v19 ev19
      refine r_iinc (pc := 138) (v := v19) (lv2 := [(6, .int v19), (5, .int v18), (4, .int v17), (8, .int s0), (0, .ref (ad X 85)), (1, .int x1), (2, .int x2)]) C 6 dX9_pollOf_138 rfl (by rw [ev19]; rfl) (by decide) rfl ?_
      refine r_goto (pc := 141) (tgt := 9) C dX9_pollOf_141 (by decide) ?_
      refine r_sub (lv2 := [(0, .ref (ad X 85)), (1, .int x1), (2, .int x2), (4, .int v17), (5, .int v18), (6, .int v19)]) [4, 5, 6, 2, 1, 0] rfl ?_
      exact hR9 _ _ _ _ _ _ h
  have hJ79 : ∀ (R9 : Mem → Int32 → Int32 → Int32 → Int32 → Int32 → Prop) (hR9 : ∀ (M : Mem) (x1 : Int32) (x2 : Int32) (x4 : Int32) (x5 : Int32) (x6 : Int32), R9 M x1 x2 x4 x5 x6 → WX K X 9 (Qi X Q) M 9 [(0, .ref (ad X 85)), (1, .int x1), (2, .int x2), (4, .int x4), (5, .int x5), (6, .int x6)] []) (M : Mem) (x1 : Int32) (x2 : Int32) (x4 : Int32) (x5 : Int32) (x6 : Int32) (x8 : Int32), wJ_X9_pollOf_79  Q R9 M x1 x2 x4 x5 x6 x8 → WX K X 9 (Qi X Q) M 79 [(0, .ref (ad X 85)), (1, .int x1), (2, .int x2), (4, .int x4), (5, .int x5), (6, .int x6), (8, .int x8)] [] := by
    intro R9 hR9 M x1 x2 x4 x5 x6 x8 h
    unfold wJ_X9_pollOf_79 at h
    refine r_iload (pc := 79) C 6 dX9_pollOf_79 rfl ?_
    refine r_sub (lv2 := [(0, .ref (ad X 85)), (1, .int x1), (2, .int x2), (4, .int x4), (5, .int x5), (6, .int x6)]) [0, 1, 2, 3, 4, 5] rfl ?_
    exact hJ81 _ hR9 _ _ _ _ _ _ _ h
  have hJ41 : ∀ (R9 : Mem → Int32 → Int32 → Int32 → Int32 → Int32 → Prop) (hR9 : ∀ (M : Mem) (x1 : Int32) (x2 : Int32) (x4 : Int32) (x5 : Int32) (x6 : Int32), R9 M x1 x2 x4 x5 x6 → WX K X 9 (Qi X Q) M 9 [(0, .ref (ad X 85)), (1, .int x1), (2, .int x2), (4, .int x4), (5, .int x5), (6, .int x6)] []) (M : Mem) (x1 : Int32) (x2 : Int32) (x4 : Int32) (x5 : Int32) (x6 : Int32) (s0 : Int32), wJ_X9_pollOf_41  Q R9 M x1 x2 x4 x5 x6 s0 → WX K X 9 (Qi X Q) M 41 [(0, .ref (ad X 85)), (1, .int x1), (2, .int x2), (4, .int x4), (5, .int x5), (6, .int x6)] [.int s0] := by
    intro R9 hR9 M x1 x2 x4 x5 x6 s0 h
    unfold wJ_X9_pollOf_41 at h
    refine r_istore (pc := 41) (lv2 := [(7, .int s0), (0, .ref (ad X 85)), (1, .int x1), (2, .int x2), (4, .int x4), (5, .int x5), (6, .int x6)]) C dX9_pollOf_41 (by decide) rfl ?_
    refine r_aload_n (pc := 43) C 1 dX9_pollOf_43 rfl ?_
    refine r_iconst (pc := 44) (v := 0) C dX9_pollOf_44 (by decide) ?_
    refine r_iload (pc := 45) C 6 dX9_pollOf_45 rfl ?_
    refine r_iload_n (pc := 47) C 2 dX9_pollOf_47 rfl ?_
    have hM := c_X9_plainFavour X  M 0 x6 x1 _ h
    refine q_s0 (s1 := List.reverse [.int 0, .int x6, .int x1] ++ .ref (ad X 85) :: []) rfl ?_
    refine r_callVi (pc := 48) (k := 85) (As := [.int 0, .int x6, .int x1]) (st := []) C 3 (by decide) (ce85 _) rfl aw521 aw522 hM aw520 aw523 aw5 yd_X9_plainFavour ⟨rfl, rfl⟩ ⟨Nat.le_of_ble_eq_true rfl, Nat.le_of_ble_eq_true rfl⟩ rfl (Nat.le_of_ble_eq_true rfl) dX9_pollOf_48 (fun r2 M1 h => ?_)
    refine r_iload (pc := 51) C 0 dX9_pollOf_51 rfl ?_
    refine r_iadd (pc := 53) C dX9_pollOf_53 ?_
    refine r_topi (fun v3 ev3 => ?_)
    replace h := h v3 ev3
    refine r_istore (pc := 54) (lv2 := [(8, .int v3), (7, .int s0), (0, .ref (ad X 85)), (1, .int x1), (2, .int x2), (4, .int x4), (5, .int x5), (6, .int x6)]) C dX9_pollOf_54 (by decide) rfl ?_
    refine r_iload (pc := 56) C 0 dX9_pollOf_56 rfl ?_
    refine r_if_ge (pc := 58) (tgt := 79) C dX9_pollOf_58 (by decide) (fun c4 => ?_) (fun c4 => ?_)
    · have h := h.1 c4
      refine r_sub (lv2 := [(0, .ref (ad X 85)), (1, .int x1), (2, .int x2), (4, .int x4), (5, .int x5), (6, .int x6), (8, .int v3)]) [2, 3, 4, 5, 6, 7, 0] rfl ?_
      exact hJ79 _ hR9 _ _ _ _ _ _ _ h
    · have h := h.2 c4
      refine r_aload_n (pc := 61) C 2 dX9_pollOf_61 rfl ?_
      refine r_get (pc := 62) (k := 85) (j := 0) (Cn := RX9) (T := TX9) (N := 21) C (by decide) (ce85 _) rfl iaX9 (by decide) aw103 rfl rfl dX9_pollOf_62 ?_
      refine r_bipush (pc := 65) (v := 18) C dX9_pollOf_65 (by decide) ?_
      refine r_iload (pc := 67) C 7 dX9_pollOf_67 rfl ?_
      refine r_iadd (pc := 69) C dX9_pollOf_69 ?_
      refine r_topi (fun v5 ev5 => ?_)
      replace h := h v5 ev5
      obtain ⟨g6, h⟩ := h
      refine q_iald (pc := 70) (k := 86) (n := 3528) (j := (Int32.toNatClampNeg v5)) C (by decide) (ce86 _) g6 rfl dX9_pollOf_70 ?_
      refine r_iconst (pc := 71) (v := 5) C dX9_pollOf_71 (by decide) ?_
      refine r_icmp_ne (pc := 72) (tgt := 79) C dX9_pollOf_72 (by decide) (fun c7 => ?_) (fun c7 => ?_)
      · have h := h.1 c7
        refine r_sub (lv2 := [(0, .ref (ad X 85)), (1, .int x1), (2, .int x2), (4, .int x4), (5, .int x5), (6, .int x6), (8, .int v3)]) [2, 3, 4, 5, 6, 7, 0] rfl ?_
        exact hJ79 _ hR9 _ _ _ _ _ _ _ h
      · have h := h.2 c7
        refine r_iconst (pc := 75) (v := 0) C dX9_pollOf_75 (by decide) ?_
        refine r_goto (pc := 76) (tgt := 81) C dX9_pollOf_76 (by decide) ?_
        refine r_sub (lv2 := [(0, .ref (ad X 85)), (1, .int x1), (2, .int x2), (4, .int x4), (5, .int x5), (6, .int x6)]) [2, 3, 4, 5, 6, 7] rfl ?_
        exact hJ81 _ hR9 _ _ _ _ _ _ _ h
  have hL9 : ∀  (n : Nat) (M : Mem) (x1 : Int32) (x2 : Int32) (x4 : Int32) (x5 : Int32) (x6 : Int32), wL_X9_pollOf_9  Q  n M x1 x2 x4 x5 x6 → WX K X 9 (Qi X Q) M 9 [(0, .ref (ad X 85)), (1, .int x1), (2, .int x2), (4, .int x4), (5, .int x5), (6, .int x6)] [] := by
    intro  n
    induction n with
    | zero => intro M x1 x2 x4 x5 x6 h; exact absurd h id
    | succ n ih =>
      intro M x1 x2 x4 x5 x6 h
      replace h := wL_X9_pollOf_9_s h
      unfold wB_X9_pollOf_9 at h
      refine r_iload (pc := 9) C 5 dX9_pollOf_9 rfl ?_
      refine r_aload_n (pc := 11) C 0 dX9_pollOf_11 rfl ?_
      refine r_get (pc := 12) (k := 85) (j := 0) (Cn := RX9) (T := TX9) (N := 21) C (by decide) (ce85 _) rfl iaX9 (by decide) aw103 rfl rfl dX9_pollOf_12 ?_
      refine r_iconst (pc := 15) (v := 3) C dX9_pollOf_15 (by decide) ?_
      refine q_iald (pc := 16) (k := 86) (n := 3528) (j := 3) C (by decide) (ce86 _) (in_lit (by decide)) (by decide) dX9_pollOf_16 ?_
      refine r_icmp_ge (pc := 17) (tgt := 144) C dX9_pollOf_17 (by decide) (fun c1 => ?_) (fun c1 => ?_)
      · have h := h.1 c1
        refine r_iload (pc := 144) C 3 dX9_pollOf_144 rfl ?_
        exact r_iret (pc := 146) C dX9_pollOf_146 h
      · have h := h.2 c1
        refine r_iload (pc := 20) C 5 dX9_pollOf_20 rfl ?_
        refine r_iload_n (pc := 22) C 1 dX9_pollOf_22 rfl ?_
        refine r_icmp_ne (pc := 23) (tgt := 30) C dX9_pollOf_23 (by decide) (fun c2 => ?_) (fun c2 => ?_)
        · have h := h.1 c2
          refine r_aload_n (pc := 30) C 0 dX9_pollOf_30 rfl ?_
          refine r_iload (pc := 31) C 5 dX9_pollOf_31 rfl ?_
          refine r_iload_n (pc := 33) C 1 dX9_pollOf_33 rfl ?_
          refine r_iload (pc := 34) C 4 dX9_pollOf_34 rfl ?_
          refine r_iconst (pc := 36) (v := 3) C dX9_pollOf_36 (by decide) ?_
          refine r_irem (pc := 37) C dX9_pollOf_37 (by decide) ?_
          have hM := c_X9_giftsFor X  M x6 x1 (x5 - x5 / 3 * 3) _ h
          refine q_s0 (s1 := List.reverse [.int x6, .int x1, .int (x5 - x5 / 3 * 3)] ++ .ref (ad X 85) :: []) rfl ?_
          refine r_callVi (pc := 38) (k := 85) (As := [.int x6, .int x1, .int (x5 - x5 / 3 * 3)]) (st := []) C 3 (by decide) (ce85 _) rfl aw742 aw743 hM aw741 aw744 aw5 yd_X9_giftsFor ⟨rfl, rfl⟩ ⟨Nat.le_of_ble_eq_true rfl, Nat.le_of_ble_eq_true rfl⟩ rfl (Nat.le_of_ble_eq_true rfl) dX9_pollOf_38 (fun r4 M3 h => ?_)
          refine r_sub (lv2 := [(0, .ref (ad X 85)), (1, .int x1), (2, .int x2), (4, .int x4), (5, .int x5), (6, .int x6)]) [0, 1, 2, 3, 4, 5] rfl ?_
          exact hJ41 _ ih _ _ _ _ _ _ _ h
        · have h := h.2 c2
          refine r_iconst (pc := 26) (v := 0) C dX9_pollOf_26 (by decide) ?_
          refine r_goto (pc := 27) (tgt := 41) C dX9_pollOf_27 (by decide) ?_
          refine r_sub (lv2 := [(0, .ref (ad X 85)), (1, .int x1), (2, .int x2), (4, .int x4), (5, .int x5), (6, .int x6)]) [0, 1, 2, 3, 4, 5] rfl ?_
          exact hJ41 _ ih _ _ _ _ _ _ _ h
  unfold w_X9_pollOf at h
  refine r_iconst (pc := 0) (v := 0) C dX9_pollOf_0 (by decide) ?_
  refine r_istore (pc := 1) (lv2 := [(4, .int 0), (0, .ref (ad X 85)), (1, .int x1), (2, .int x2), (3, .int x3)]) C dX9_pollOf_1 (by decide) rfl ?_
  refine r_iload_n (pc := 3) C 4 dX9_pollOf_3 rfl ?_
  refine r_istore (pc := 4) (lv2 := [(5, .int x3), (4, .int 0), (0, .ref (ad X 85)), (1, .int x1), (2, .int x2), (3, .int x3)]) C dX9_pollOf_4 (by decide) rfl ?_
  refine r_iconst (pc := 6) (v := 0) C dX9_pollOf_6 (by decide) ?_
  refine r_istore (pc := 7) (lv2 := [(6, .int 0), (5, .int x3), (4, .int 0), (0, .ref (ad X 85)), (1, .int x1), (2, .int x2), (3, .int x3)]) C dX9_pollOf_7 (by decide) rfl ?_
  obtain ⟨n1, h⟩ := h
  refine r_sub (lv2 := [(0, .ref (ad X 85)), (1, .int x1), (2, .int x2), (4, .int 0), (5, .int x3), (6, .int 0)]) [3, 4, 5, 2, 1, 0] rfl ?_
  exact hL9  _ _ _ _ _ _ _ h
theorem yd_X9_layTaken : yX9_layTaken.cls ≠ "java/lang/invoke/MethodHandle" ∧ yX9_layTaken.cls ≠ "java/lang/invoke/VarHandle" ∧ (parseMethodDescriptor yX9_layTaken.desc).map (fun d => d.parameters.length) = some 2 := by decide +kernel
def wJ_X9_layTaken_68  (Q : Mem → Prop) (R15 : Mem → Int32 → Int32 → Int32 → Prop) (M : Mem) (x1 : Int32) (x3 : Int32) (x4 : Int32) (x5 : Int32) (s1 : Int32) (s2 : Int32) : Prop :=
  ∀ v1 : Int32, v1 = (s1 + s2) → (∀ M2 : Mem, M2 = ms M 85 19 v1 → (((x5 ≤ 0) → (∀ v4 : Int32, v4 = ((M2 85 20) ||| 0) → (∀ M5 : Mem, M5 = ms M2 85 20 v4 → (∀ v6 : Int32, v6 = (x3 / 3) → (∀ v7 : Int32, v7 = x4 + 1 → (R15 M5 x1 v6 v7)))))) ∧ ((¬ x5 ≤ 0) → (∀ v8 : Int32, v8 = ((M2 85 20) ||| (1 <<< (x4 &&& 31))) → (∀ M9 : Mem, M9 = ms M2 85 20 v8 → (∀ v10 : Int32, v10 = (x3 / 3) → (∀ v11 : Int32, v11 = x4 + 1 → (R15 M9 x1 v10 v11))))))))
def wJ_X9_layTaken_46  (Q : Mem → Prop) (R15 : Mem → Int32 → Int32 → Int32 → Prop) (M : Mem) (x1 : Int32) (x3 : Int32) (x4 : Int32) (s0 : Int32) : Prop :=
  ((s0 ≤ 20) → (wJ_X9_layTaken_68  Q R15 M x1 x3 x4 s0 (M 85 19) s0)) ∧ ((¬ s0 ≤ 20) → (wJ_X9_layTaken_68  Q R15 M x1 x3 x4 s0 (M 85 19) 1000))
def wB_X9_layTaken_15  (Q : Mem → Prop)  (R15 : Mem → Int32 → Int32 → Int32 → Prop) (M : Mem) (x1 : Int32) (x3 : Int32) (x4 : Int32) : Prop :=
  (((M 86 3) ≤ x4) → (Q M)) ∧ ((¬ (M 86 3) ≤ x4) → (((¬ x4 = x1) → (w_X9_giftsFor  M x4 x1 (x3 - x3 / 3 * 3) (fun r4 M3 => wJ_X9_layTaken_46  Q R15 M3 x1 x3 x4 r4))) ∧ ((x4 = x1) → (wJ_X9_layTaken_46  Q R15 M x1 x3 x4 0))))
def wL_X9_layTaken_15  (Q : Mem → Prop)  : Nat → Mem → Int32 → Int32 → Int32 → Prop
  | 0 => fun _ _ _ _ => False
  | n + 1 => fun M x1 x3 x4 => wB_X9_layTaken_15  Q  (wL_X9_layTaken_15  Q  n) M x1 x3 x4
theorem wL_X9_layTaken_15_s  {Q : Mem → Prop}  {n : Nat} {M : Mem} {x1 : Int32} {x3 : Int32} {x4 : Int32} (h : wL_X9_layTaken_15  Q  (n + 1) M x1 x3 x4) : wB_X9_layTaken_15  Q  (wL_X9_layTaken_15  Q  n) M x1 x3 x4 := h
def w_X9_layTaken  (M : Mem) (x1 : Int32) (x2 : Int32) (Q : Mem → Prop) : Prop :=
  ∀ M1 : Mem, M1 = ms M 85 19 0 → (∀ M2 : Mem, M2 = ms M1 85 20 0 → (∃ n3 : Nat, wL_X9_layTaken_15  Q  n3 M2 x1 x2 0))
abbrev rm_X9_layTaken : Room := { frames := 12, cells := 0, slots := 0, locals := 240 }
set_option maxHeartbeats 4000000 in
set_option maxRecDepth 100000 in
theorem c_X9_layTaken (X : Cx)  (M : Mem) (x1 : Int32) (x2 : Int32) (Q : Mem → Prop) (h : w_X9_layTaken  M x1 x2 Q) : Ct yX9_layTaken cX9_layTaken 6 none rm_X9_layTaken X M [.ref (ad X 85), .int x1, .int x2] (Qv X Q) := by
  refine ct_of (own := RX9) (lv := [(0, .ref (ad X 85)), (1, .int x1), (2, .int x2)]) rfl (by decide) (Nat.le_of_ble_eq_true rfl) rfl ?_
  intro K C
  have hJ68 : ∀ (R15 : Mem → Int32 → Int32 → Int32 → Prop) (hR15 : ∀ (M : Mem) (x1 : Int32) (x3 : Int32) (x4 : Int32), R15 M x1 x3 x4 → WX K X 6 (Qv X Q) M 15 [(0, .ref (ad X 85)), (1, .int x1), (3, .int x3), (4, .int x4)] []) (M : Mem) (x1 : Int32) (x3 : Int32) (x4 : Int32) (x5 : Int32) (s1 : Int32) (s2 : Int32), wJ_X9_layTaken_68  Q R15 M x1 x3 x4 x5 s1 s2 → WX K X 6 (Qv X Q) M 68 [(0, .ref (ad X 85)), (1, .int x1), (3, .int x3), (4, .int x4), (5, .int x5)] [.int s2, .int s1, .ref (ad X 85)] := by
    intro R15 hR15 M x1 x3 x4 x5 s1 s2 h
    unfold wJ_X9_layTaken_68 at h
    refine r_iadd (pc := 68) C dX9_layTaken_68 ?_
    refine r_topi (fun v1 ev1 => ?_)
    replace h := h v1 ev1
    refine r_put (pc := 69) (k := 85) (j := 19) (Cn := RX9) (T := TX9) (N := 21) (host := "") C (by decide) (ce85 _) rfl iaX9 (by decide) (ce85 _) tyX9_ok nmX9 aw735 rfl rfl (tyX9_ok 19 (by decide)) (Nat.le_of_ble_eq_true rfl) dX9_layTaken_69 ?_
    refine r_topM (fun M2 eM2 => ?_)
    replace h := h M2 eM2
    refine r_aload_n (pc := 72) C 0 dX9_layTaken_72 rfl ?_
    refine r_dup (pc := 73) C dX9_layTaken_73 rfl ?_
    refine r_get (pc := 74) (k := 85) (j := 20) (Cn := RX9) (T := TX9) (N := 21) C (by decide) (ce85 _) rfl iaX9 (by decide) aw736 rfl rfl dX9_layTaken_74 ?_
    refine r_iload (pc := 77) C 4 dX9_layTaken_77 rfl ?_
    refine r_if_le (pc := 79) (tgt := 89) C dX9_layTaken_79 (by decide) (fun c3 => ?_) (fun c3 => ?_)
    · have h := h.1 c3
      refine r_iconst (pc := 89) (v := 0) C dX9_layTaken_89 (by decide) ?_
      refine r_ior (pc := 90) C dX9_layTaken_90 ?_
      refine r_topi (fun v4 ev4 => ?_)
      replace h := h v4 ev4
      refine r_put (pc := 91) (k := 85) (j := 20) (Cn := RX9) (T := TX9) (N := 21) (host := "") C (by decide) (ce85 _) rfl iaX9 (by decide) (ce85 _) tyX9_ok nmX9 aw736 rfl rfl (tyX9_ok 20 (by decide)) (Nat.le_of_ble_eq_true rfl) dX9_layTaken_91 ?_
      refine r_topM (fun M5 eM5 => ?_)
      replace h := h M5 eM5
      refine r_iload_n (pc := 94) C 2 dX9_layTaken_94 rfl ?_
      refine r_iconst (pc := 95) (v := 3) C dX9_layTaken_95 (by decide) ?_
      refine r_idiv (pc := 96) C dX9_layTaken_96 (by decide) ?_
      refine r_topi (fun v6 ev6 => ?_)
      replace h := h v6 ev6
      refine r_istore_n (pc := 97) (lv2 := [(3, .int v6), (0, .ref (ad X 85)), (1, .int x1), (4, .int x4), (5, .int x5)]) C dX9_layTaken_97 (by decide) rfl ?_
      obtain ⟨v7, ev7⟩ : ∃ z : Int32, z = x4 + 1 := ⟨_, rfl⟩
      replace h := h v7 ev7
      refine r_iinc (pc := 98) (v := v7) (lv2 := [(4, .int v7), (3, .int v6), (0, .ref (ad X 85)), (1, .int x1), (5, .int x5)]) C 3 dX9_layTaken_98 rfl (by rw [ev7]; rfl) (by decide) rfl ?_
      refine r_goto (pc := 101) (tgt := 15) C dX9_layTaken_101 (by decide) ?_
      refine r_sub (lv2 := [(0, .ref (ad X 85)), (1, .int x1), (3, .int v6), (4, .int v7)]) [2, 3, 1, 0] rfl ?_
      exact hR15 _ _ _ _ h
    · have h := h.2 c3
      refine r_iconst (pc := 82) (v := 1) C dX9_layTaken_82 (by decide) ?_
      refine r_iload (pc := 83) C 3 dX9_layTaken_83 rfl ?_
      refine r_ishl (pc := 85) C dX9_layTaken_85 ?_
      refine r_goto (pc := 86) (tgt := 90) C dX9_layTaken_86 (by decide) ?_
      refine r_ior (pc := 90) C dX9_layTaken_90 ?_
      refine r_topi (fun v8 ev8 => ?_)
      replace h := h v8 ev8
      refine r_put (pc := 91) (k := 85) (j := 20) (Cn := RX9) (T := TX9) (N := 21) (host := "") C (by decide) (ce85 _) rfl iaX9 (by decide) (ce85 _) tyX9_ok nmX9 aw736 rfl rfl (tyX9_ok 20 (by decide)) (Nat.le_of_ble_eq_true rfl) dX9_layTaken_91 ?_
      refine r_topM (fun M9 eM9 => ?_)
      replace h := h M9 eM9
      refine r_iload_n (pc := 94) C 2 dX9_layTaken_94 rfl ?_
      refine r_iconst (pc := 95) (v := 3) C dX9_layTaken_95 (by decide) ?_
      refine r_idiv (pc := 96) C dX9_layTaken_96 (by decide) ?_
      refine r_topi (fun v10 ev10 => ?_)
      replace h := h v10 ev10
      refine r_istore_n (pc := 97) (lv2 := [(3, .int v10), (0, .ref (ad X 85)), (1, .int x1), (4, .int x4), (5, .int x5)]) C dX9_layTaken_97 (by decide) rfl ?_
      obtain ⟨v11, ev11⟩ : ∃ z : Int32, z = x4 + 1 := ⟨_, rfl⟩
      replace h := h v11 ev11
      refine r_iinc (pc := 98) (v := v11) (lv2 := [(4, .int v11), (3, .int v10), (0, .ref (ad X 85)), (1, .int x1), (5, .int x5)]) C 3 dX9_layTaken_98 rfl (by rw [ev11]; rfl) (by decide) rfl ?_
      refine r_goto (pc := 101) (tgt := 15) C dX9_layTaken_101 (by decide) ?_
      refine r_sub (lv2 := [(0, .ref (ad X 85)), (1, .int x1), (3, .int v10), (4, .int v11)]) [2, 3, 1, 0] rfl ?_
      exact hR15 _ _ _ _ h
  have hJ46 : ∀ (R15 : Mem → Int32 → Int32 → Int32 → Prop) (hR15 : ∀ (M : Mem) (x1 : Int32) (x3 : Int32) (x4 : Int32), R15 M x1 x3 x4 → WX K X 6 (Qv X Q) M 15 [(0, .ref (ad X 85)), (1, .int x1), (3, .int x3), (4, .int x4)] []) (M : Mem) (x1 : Int32) (x3 : Int32) (x4 : Int32) (s0 : Int32), wJ_X9_layTaken_46  Q R15 M x1 x3 x4 s0 → WX K X 6 (Qv X Q) M 46 [(0, .ref (ad X 85)), (1, .int x1), (3, .int x3), (4, .int x4)] [.int s0] := by
    intro R15 hR15 M x1 x3 x4 s0 h
    unfold wJ_X9_layTaken_46 at h
    refine r_istore (pc := 46) (lv2 := [(5, .int s0), (0, .ref (ad X 85)), (1, .int x1), (3, .int x3), (4, .int x4)]) C dX9_layTaken_46 (by decide) rfl ?_
    refine r_aload_n (pc := 48) C 1 dX9_layTaken_48 rfl ?_
    refine r_dup (pc := 49) C dX9_layTaken_49 rfl ?_
    refine r_get (pc := 50) (k := 85) (j := 19) (Cn := RX9) (T := TX9) (N := 21) C (by decide) (ce85 _) rfl iaX9 (by decide) aw735 rfl rfl dX9_layTaken_50 ?_
    refine r_iload (pc := 53) C 0 dX9_layTaken_53 rfl ?_
    refine r_bipush (pc := 55) (v := 20) C dX9_layTaken_55 (by decide) ?_
    refine r_icmp_le (pc := 57) (tgt := 66) C dX9_layTaken_57 (by decide) (fun c1 => ?_) (fun c1 => ?_)
    · have h := h.1 c1
      refine r_iload (pc := 66) C 0 dX9_layTaken_66 rfl ?_
      refine r_sub (lv2 := [(0, .ref (ad X 85)), (1, .int x1), (3, .int x3), (4, .int x4), (5, .int s0)]) [1, 2, 3, 4, 0] rfl ?_
      exact hJ68 _ hR15 _ _ _ _ _ _ _ h
    · have h := h.2 c1
      refine r_sipush (pc := 60) (v := 1000) C dX9_layTaken_60 (by decide) ?_
      refine r_goto (pc := 63) (tgt := 68) C dX9_layTaken_63 (by decide) ?_
      refine r_sub (lv2 := [(0, .ref (ad X 85)), (1, .int x1), (3, .int x3), (4, .int x4), (5, .int s0)]) [1, 2, 3, 4, 0] rfl ?_
      exact hJ68 _ hR15 _ _ _ _ _ _ _ h
  have hL15 : ∀  (n : Nat) (M : Mem) (x1 : Int32) (x3 : Int32) (x4 : Int32), wL_X9_layTaken_15  Q  n M x1 x3 x4 → WX K X 6 (Qv X Q) M 15 [(0, .ref (ad X 85)), (1, .int x1), (3, .int x3), (4, .int x4)] [] := by
    intro  n
    induction n with
    | zero => intro M x1 x3 x4 h; exact absurd h id
    | succ n ih =>
      intro M x1 x3 x4 h
      replace h := wL_X9_layTaken_15_s h
      unfold wB_X9_layTaken_15 at h
      refine r_iload (pc := 15) C 3 dX9_layTaken_15 rfl ?_
      refine r_aload_n (pc := 17) C 0 dX9_layTaken_17 rfl ?_
      refine r_get (pc := 18) (k := 85) (j := 0) (Cn := RX9) (T := TX9) (N := 21) C (by decide) (ce85 _) rfl iaX9 (by decide) aw103 rfl rfl dX9_layTaken_18 ?_
      refine r_iconst (pc := 21) (v := 3) C dX9_layTaken_21 (by decide) ?_
      refine q_iald (pc := 22) (k := 86) (n := 3528) (j := 3) C (by decide) (ce86 _) (in_lit (by decide)) (by decide) dX9_layTaken_22 ?_
      refine r_icmp_ge (pc := 23) (tgt := 104) C dX9_layTaken_23 (by decide) (fun c1 => ?_) (fun c1 => ?_)
      · have h := h.1 c1
        exact r_vret (pc := 104) C dX9_layTaken_104 h
      · have h := h.2 c1
        refine r_iload (pc := 26) C 3 dX9_layTaken_26 rfl ?_
        refine r_iload_n (pc := 28) C 1 dX9_layTaken_28 rfl ?_
        refine r_icmp_ne (pc := 29) (tgt := 36) C dX9_layTaken_29 (by decide) (fun c2 => ?_) (fun c2 => ?_)
        · have h := h.1 c2
          refine r_aload_n (pc := 36) C 0 dX9_layTaken_36 rfl ?_
          refine r_iload (pc := 37) C 3 dX9_layTaken_37 rfl ?_
          refine r_iload_n (pc := 39) C 1 dX9_layTaken_39 rfl ?_
          refine r_iload_n (pc := 40) C 2 dX9_layTaken_40 rfl ?_
          refine r_iconst (pc := 41) (v := 3) C dX9_layTaken_41 (by decide) ?_
          refine r_irem (pc := 42) C dX9_layTaken_42 (by decide) ?_
          have hM := c_X9_giftsFor X  M x4 x1 (x3 - x3 / 3 * 3) _ h
          refine q_s0 (s1 := List.reverse [.int x4, .int x1, .int (x3 - x3 / 3 * 3)] ++ .ref (ad X 85) :: []) rfl ?_
          refine r_callVi (pc := 43) (k := 85) (As := [.int x4, .int x1, .int (x3 - x3 / 3 * 3)]) (st := []) C 3 (by decide) (ce85 _) rfl aw742 aw743 hM aw741 aw744 aw5 yd_X9_giftsFor ⟨rfl, rfl⟩ ⟨Nat.le_of_ble_eq_true rfl, Nat.le_of_ble_eq_true rfl⟩ rfl (Nat.le_of_ble_eq_true rfl) dX9_layTaken_43 (fun r4 M3 h => ?_)
          refine r_sub (lv2 := [(0, .ref (ad X 85)), (1, .int x1), (3, .int x3), (4, .int x4)]) [0, 1, 2, 3] rfl ?_
          exact hJ46 _ ih _ _ _ _ _ h
        · have h := h.2 c2
          refine r_iconst (pc := 32) (v := 0) C dX9_layTaken_32 (by decide) ?_
          refine r_goto (pc := 33) (tgt := 46) C dX9_layTaken_33 (by decide) ?_
          refine r_sub (lv2 := [(0, .ref (ad X 85)), (1, .int x1), (3, .int x3), (4, .int x4)]) [0, 1, 2, 3] rfl ?_
          exact hJ46 _ ih _ _ _ _ _ h
  unfold w_X9_layTaken at h
  refine r_aload_n (pc := 0) C 0 dX9_layTaken_0 rfl ?_
  refine r_iconst (pc := 1) (v := 0) C dX9_layTaken_1 (by decide) ?_
  refine r_put (pc := 2) (k := 85) (j := 19) (Cn := RX9) (T := TX9) (N := 21) (host := "") C (by decide) (ce85 _) rfl iaX9 (by decide) (ce85 _) tyX9_ok nmX9 aw735 rfl rfl (tyX9_ok 19 (by decide)) (Nat.le_of_ble_eq_true rfl) dX9_layTaken_2 ?_
  refine r_topM (fun M1 eM1 => ?_)
  replace h := h M1 eM1
  refine r_aload_n (pc := 5) C 0 dX9_layTaken_5 rfl ?_
  refine r_iconst (pc := 6) (v := 0) C dX9_layTaken_6 (by decide) ?_
  refine r_put (pc := 7) (k := 85) (j := 20) (Cn := RX9) (T := TX9) (N := 21) (host := "") C (by decide) (ce85 _) rfl iaX9 (by decide) (ce85 _) tyX9_ok nmX9 aw736 rfl rfl (tyX9_ok 20 (by decide)) (Nat.le_of_ble_eq_true rfl) dX9_layTaken_7 ?_
  refine r_topM (fun M2 eM2 => ?_)
  replace h := h M2 eM2
  refine r_iload_n (pc := 10) C 2 dX9_layTaken_10 rfl ?_
  refine r_istore_n (pc := 11) (lv2 := [(3, .int x2), (0, .ref (ad X 85)), (1, .int x1), (2, .int x2)]) C dX9_layTaken_11 (by decide) rfl ?_
  refine r_iconst (pc := 12) (v := 0) C dX9_layTaken_12 (by decide) ?_
  refine r_istore (pc := 13) (lv2 := [(4, .int 0), (3, .int x2), (0, .ref (ad X 85)), (1, .int x1), (2, .int x2)]) C dX9_layTaken_13 (by decide) rfl ?_
  obtain ⟨n3, h⟩ := h
  refine r_sub (lv2 := [(0, .ref (ad X 85)), (1, .int x1), (3, .int x2), (4, .int 0)]) [2, 3, 1, 0] rfl ?_
  exact hL15  _ _ _ _ _ h
theorem yd_X9_gifts : yX9_gifts.cls ≠ "java/lang/invoke/MethodHandle" ∧ yX9_gifts.cls ≠ "java/lang/invoke/VarHandle" ∧ (parseMethodDescriptor yX9_gifts.desc).map (fun d => d.parameters.length) = some 3 := by decide +kernel
def wJ_X9_gifts_135  (Q : Int32 → Mem → Prop) (R52 : Mem → Int32 → Int32 → Int32 → Int32 → Int32 → Int32 → Prop) (M : Mem) (x1 : Int32) (x2 : Int32) (x3 : Int32) (x4 : Int32) (x6 : Int32) (x7 : Int32) (s0 : Int32) : Prop :=
  ((x7 = 0) → (∀ v2 : Int32, v2 = x6 + 1 → (R52 M x1 x2 x3 x4 s0 v2))) ∧ ((¬ x7 = 0) → (∀ v3 : Int32, v3 = (M 85 19) → (∀ v4 : Int32, v4 = x6 + 1 → (R52 M x1 x2 x3 v3 s0 v4))))
def wJ_X9_gifts_119  (Q : Int32 → Mem → Prop) (R52 : Mem → Int32 → Int32 → Int32 → Int32 → Int32 → Int32 → Prop) (M : Mem) (x1 : Int32) (x2 : Int32) (x3 : Int32) (x4 : Int32) (x5 : Int32) (x6 : Int32) (s0 : Int32) : Prop :=
  ((s0 = 0) → (wJ_X9_gifts_135  Q R52 M x1 x2 x3 x4 x6 s0 x5)) ∧ ((¬ s0 = 0) → (wJ_X9_gifts_135  Q R52 M x1 x2 x3 x4 x6 s0 (M 85 20)))
def wJ_X9_gifts_118  (Q : Int32 → Mem → Prop) (R52 : Mem → Int32 → Int32 → Int32 → Int32 → Int32 → Int32 → Prop) (M : Mem) (x1 : Int32) (x2 : Int32) (x3 : Int32) (x4 : Int32) (x5 : Int32) (x6 : Int32) : Prop :=
  wJ_X9_gifts_119  Q R52 M x1 x2 x3 x4 x5 x6 0
def wJ_X9_gifts_114  (Q : Int32 → Mem → Prop) (R52 : Mem → Int32 → Int32 → Int32 → Int32 → Int32 → Int32 → Prop) (M : Mem) (x1 : Int32) (x2 : Int32) (x3 : Int32) (x4 : Int32) (x5 : Int32) (x6 : Int32) : Prop :=
  wJ_X9_gifts_119  Q R52 M x1 x2 x3 x4 x5 x6 1
def wB_X9_gifts_52  (Q : Int32 → Mem → Prop)  (R52 : Mem → Int32 → Int32 → Int32 → Int32 → Int32 → Int32 → Prop) (M : Mem) (x1 : Int32) (x2 : Int32) (x3 : Int32) (x4 : Int32) (x5 : Int32) (x6 : Int32) : Prop :=
  ((729 ≤ x6) → (((¬ x5 = (-1000000)) → (((¬ x3 = 0) → (Q x5 M)) ∧ ((x3 = 0) → (Q x4 M)))) ∧ ((x5 = (-1000000)) → (Q (-1000000) M)))) ∧ ((¬ 729 ≤ x6) → (w_X9_pollOf  M x1 x2 x6 (fun r5 M4 => ((r5 ≤ 0) → (∀ v7 : Int32, v7 = x6 + 1 → (R52 M4 x1 x2 x3 x4 x5 v7))) ∧ ((¬ r5 ≤ 0) → (w_X9_layTaken  M4 x1 x6 (fun M8 => (((M8 85 19) < x4) → (wJ_X9_gifts_114  Q R52 M8 x1 x2 x3 x4 x5 x6)) ∧ ((¬ (M8 85 19) < x4) → (((¬ (M8 85 19) = x4) → (wJ_X9_gifts_118  Q R52 M8 x1 x2 x3 x4 x5 x6)) ∧ (((M8 85 19) = x4) → (((41 ≤ (M8 85 19)) → (wJ_X9_gifts_118  Q R52 M8 x1 x2 x3 x4 x5 x6)) ∧ ((¬ 41 ≤ (M8 85 19)) → (((x5 ≤ (M8 85 20)) → (wJ_X9_gifts_118  Q R52 M8 x1 x2 x3 x4 x5 x6)) ∧ ((¬ x5 ≤ (M8 85 20)) → (wJ_X9_gifts_114  Q R52 M8 x1 x2 x3 x4 x5 x6))))))))))))))
def wL_X9_gifts_52  (Q : Int32 → Mem → Prop)  : Nat → Mem → Int32 → Int32 → Int32 → Int32 → Int32 → Int32 → Prop
  | 0 => fun _ _ _ _ _ _ _ => False
  | n + 1 => fun M x1 x2 x3 x4 x5 x6 => wB_X9_gifts_52  Q  (wL_X9_gifts_52  Q  n) M x1 x2 x3 x4 x5 x6
theorem wL_X9_gifts_52_s  {Q : Int32 → Mem → Prop}  {n : Nat} {M : Mem} {x1 : Int32} {x2 : Int32} {x3 : Int32} {x4 : Int32} {x5 : Int32} {x6 : Int32} (h : wL_X9_gifts_52  Q  (n + 1) M x1 x2 x3 x4 x5 x6) : wB_X9_gifts_52  Q  (wL_X9_gifts_52  Q  n) M x1 x2 x3 x4 x5 x6 := h
def w_X9_gifts  (M : Mem) (x1 : Int32) (x2 : Int32) (x3 : Int32) (Q : Int32 → Mem → Prop) : Prop :=
  w_X9_isPerson  M x1 (fun r2 M1 => ((r2 = 0) → (Q (-1000001) M1)) ∧ ((¬ r2 = 0) → (w_X9_isDoor  M1 x2 (fun r5 M4 => ((r5 = 0) → (Q (-1000001) M4)) ∧ ((¬ r5 = 0) → (w_X9_in  M4 (Int32.toInt64 x3) 0 1 (fun r8 M7 => ((¬ r8 = 0) → (w_X9_opens  M7 0 x1 x2 (fun r11 M10 => ((r11 = 0) → (∃ n13 : Nat, wL_X9_gifts_52  Q  n13 M10 x1 x2 x3 41 (-1000000) 0)) ∧ ((¬ r11 = 0) → (Q 0 M10))))) ∧ ((r8 = 0) → (Q (-1000001) M7)))))))))
abbrev rm_X9_gifts : Room := { frames := 18, cells := 0, slots := 0, locals := 360 }
set_option maxHeartbeats 4000000 in
set_option maxRecDepth 100000 in
theorem c_X9_gifts (X : Cx)  (M : Mem) (x1 : Int32) (x2 : Int32) (x3 : Int32) (Q : Int32 → Mem → Prop) (h : w_X9_gifts  M x1 x2 x3 Q) : Ct yX9_gifts cX9_gifts 8 (some .int) rm_X9_gifts X M [.ref (ad X 85), .int x1, .int x2, .int x3] (Qi X Q) := by
  refine ct_of (own := RX9) (lv := [(0, .ref (ad X 85)), (1, .int x1), (2, .int x2), (3, .int x3)]) rfl (by decide) (Nat.le_of_ble_eq_true rfl) rfl ?_
  intro K C
  have hJ135 : ∀ (R52 : Mem → Int32 → Int32 → Int32 → Int32 → Int32 → Int32 → Prop) (hR52 : ∀ (M : Mem) (x1 : Int32) (x2 : Int32) (x3 : Int32) (x4 : Int32) (x5 : Int32) (x6 : Int32), R52 M x1 x2 x3 x4 x5 x6 → WX K X 8 (Qi X Q) M 52 [(0, .ref (ad X 85)), (1, .int x1), (2, .int x2), (3, .int x3), (4, .int x4), (5, .int x5), (6, .int x6)] []) (M : Mem) (x1 : Int32) (x2 : Int32) (x3 : Int32) (x4 : Int32) (x6 : Int32) (x7 : Int32) (s0 : Int32), wJ_X9_gifts_135  Q R52 M x1 x2 x3 x4 x6 x7 s0 → WX K X 8 (Qi X Q) M 135 [(0, .ref (ad X 85)), (1, .int x1), (2, .int x2), (3, .int x3), (4, .int x4), (6, .int x6), (7, .int x7)] [.int s0] := by
    intro R52 hR52 M x1 x2 x3 x4 x6 x7 s0 h
    unfold wJ_X9_gifts_135 at h
    refine r_istore (pc := 135) (lv2 := [(5, .int s0), (0, .ref (ad X 85)), (1, .int x1), (2, .int x2), (3, .int x3), (4, .int x4), (6, .int x6), (7, .int x7)]) C dX9_gifts_135 (by decide) rfl ?_
    refine r_iload (pc := 137) C 7 dX9_gifts_137 rfl ?_
    refine r_if_eq (pc := 139) (tgt := 149) C dX9_gifts_139 (by decide) (fun c1 => ?_) (fun c1 => ?_)
    · have h := h.1 c1
      refine r_iload (pc := 149) C 5 dX9_gifts_149 rfl ?_
      refine r_istore (pc := 151) (lv2 := [(4, .int x4), (5, .int s0), (0, .ref (ad X 85)), (1, .int x1), (2, .int x2), (3, .int x3), (6, .int x6), (7, .int x7)]) C dX9_gifts_151 (by decide) rfl ?_
      obtain ⟨v2, ev2⟩ : ∃ z : Int32, z = x6 + 1 := ⟨_, rfl⟩
      replace h := h v2 ev2
      refine r_iinc (pc := 153) (v := v2) (lv2 := [(6, .int v2), (4, .int x4), (5, .int s0), (0, .ref (ad X 85)), (1, .int x1), (2, .int x2), (3, .int x3), (7, .int x7)]) C 6 dX9_gifts_153 rfl (by rw [ev2]; rfl) (by decide) rfl ?_
      refine r_goto (pc := 156) (tgt := 52) C dX9_gifts_156 (by decide) ?_
      refine r_sub (lv2 := [(0, .ref (ad X 85)), (1, .int x1), (2, .int x2), (3, .int x3), (4, .int x4), (5, .int s0), (6, .int v2)]) [3, 4, 5, 6, 1, 2, 0] rfl ?_
      exact hR52 _ _ _ _ _ _ _ h
    · have h := h.2 c1
      refine r_aload_n (pc := 142) C 1 dX9_gifts_142 rfl ?_
      refine r_get (pc := 143) (k := 85) (j := 19) (Cn := RX9) (T := TX9) (N := 21) C (by decide) (ce85 _) rfl iaX9 (by decide) aw735 rfl rfl dX9_gifts_143 ?_
      refine r_goto (pc := 146) (tgt := 151) C dX9_gifts_146 (by decide) ?_
      refine r_topi (fun v3 ev3 => ?_)
      replace h := h v3 ev3
      refine r_istore (pc := 151) (lv2 := [(4, .int v3), (5, .int s0), (0, .ref (ad X 85)), (1, .int x1), (2, .int x2), (3, .int x3), (6, .int x6), (7, .int x7)]) C dX9_gifts_151 (by decide) rfl ?_
      obtain ⟨v4, ev4⟩ : ∃ z : Int32, z = x6 + 1 := ⟨_, rfl⟩
      replace h := h v4 ev4
      refine r_iinc (pc := 153) (v := v4) (lv2 := [(6, .int v4), (4, .int v3), (5, .int s0), (0, .ref (ad X 85)), (1, .int x1), (2, .int x2), (3, .int x3), (7, .int x7)]) C 6 dX9_gifts_153 rfl (by rw [ev4]; rfl) (by decide) rfl ?_
      refine r_goto (pc := 156) (tgt := 52) C dX9_gifts_156 (by decide) ?_
      refine r_sub (lv2 := [(0, .ref (ad X 85)), (1, .int x1), (2, .int x2), (3, .int x3), (4, .int v3), (5, .int s0), (6, .int v4)]) [3, 4, 5, 6, 1, 2, 0] rfl ?_
      exact hR52 _ _ _ _ _ _ _ h
  have hJ119 : ∀ (R52 : Mem → Int32 → Int32 → Int32 → Int32 → Int32 → Int32 → Prop) (hR52 : ∀ (M : Mem) (x1 : Int32) (x2 : Int32) (x3 : Int32) (x4 : Int32) (x5 : Int32) (x6 : Int32), R52 M x1 x2 x3 x4 x5 x6 → WX K X 8 (Qi X Q) M 52 [(0, .ref (ad X 85)), (1, .int x1), (2, .int x2), (3, .int x3), (4, .int x4), (5, .int x5), (6, .int x6)] []) (M : Mem) (x1 : Int32) (x2 : Int32) (x3 : Int32) (x4 : Int32) (x5 : Int32) (x6 : Int32) (s0 : Int32), wJ_X9_gifts_119  Q R52 M x1 x2 x3 x4 x5 x6 s0 → WX K X 8 (Qi X Q) M 119 [(0, .ref (ad X 85)), (1, .int x1), (2, .int x2), (3, .int x3), (4, .int x4), (5, .int x5), (6, .int x6)] [.int s0] := by
    intro R52 hR52 M x1 x2 x3 x4 x5 x6 s0 h
    unfold wJ_X9_gifts_119 at h
    refine r_istore (pc := 119) (lv2 := [(7, .int s0), (0, .ref (ad X 85)), (1, .int x1), (2, .int x2), (3, .int x3), (4, .int x4), (5, .int x5), (6, .int x6)]) C dX9_gifts_119 (by decide) rfl ?_
    refine r_iload (pc := 121) C 0 dX9_gifts_121 rfl ?_
    refine r_if_eq (pc := 123) (tgt := 133) C dX9_gifts_123 (by decide) (fun c1 => ?_) (fun c1 => ?_)
    · have h := h.1 c1
      refine r_iload (pc := 133) C 6 dX9_gifts_133 rfl ?_
      refine r_sub (lv2 := [(0, .ref (ad X 85)), (1, .int x1), (2, .int x2), (3, .int x3), (4, .int x4), (6, .int x6), (7, .int s0)]) [1, 2, 3, 4, 5, 7, 0] rfl ?_
      exact hJ135 _ hR52 _ _ _ _ _ _ _ _ h
    · have h := h.2 c1
      refine r_aload_n (pc := 126) C 1 dX9_gifts_126 rfl ?_
      refine r_get (pc := 127) (k := 85) (j := 20) (Cn := RX9) (T := TX9) (N := 21) C (by decide) (ce85 _) rfl iaX9 (by decide) aw736 rfl rfl dX9_gifts_127 ?_
      refine r_goto (pc := 130) (tgt := 135) C dX9_gifts_130 (by decide) ?_
      refine r_sub (lv2 := [(0, .ref (ad X 85)), (1, .int x1), (2, .int x2), (3, .int x3), (4, .int x4), (6, .int x6), (7, .int s0)]) [1, 2, 3, 4, 5, 7, 0] rfl ?_
      exact hJ135 _ hR52 _ _ _ _ _ _ _ _ h
  have hJ118 : ∀ (R52 : Mem → Int32 → Int32 → Int32 → Int32 → Int32 → Int32 → Prop) (hR52 : ∀ (M : Mem) (x1 : Int32) (x2 : Int32) (x3 : Int32) (x4 : Int32) (x5 : Int32) (x6 : Int32), R52 M x1 x2 x3 x4 x5 x6 → WX K X 8 (Qi X Q) M 52 [(0, .ref (ad X 85)), (1, .int x1), (2, .int x2), (3, .int x3), (4, .int x4), (5, .int x5), (6, .int x6)] []) (M : Mem) (x1 : Int32) (x2 : Int32) (x3 : Int32) (x4 : Int32) (x5 : Int32) (x6 : Int32), wJ_X9_gifts_118  Q R52 M x1 x2 x3 x4 x5 x6 → WX K X 8 (Qi X Q) M 118 [(0, .ref (ad X 85)), (1, .int x1), (2, .int x2), (3, .int x3), (4, .int x4), (5, .int x5), (6, .int x6)] [] := by
    intro R52 hR52 M x1 x2 x3 x4 x5 x6 h
    unfold wJ_X9_gifts_118 at h
    refine r_iconst (pc := 118) (v := 0) C dX9_gifts_118 (by decide) ?_
    refine r_sub (lv2 := [(0, .ref (ad X 85)), (1, .int x1), (2, .int x2), (3, .int x3), (4, .int x4), (5, .int x5), (6, .int x6)]) [0, 1, 2, 3, 4, 5, 6] rfl ?_
    exact hJ119 _ hR52 _ _ _ _ _ _ _ _ h
  have hJ114 : ∀ (R52 : Mem → Int32 → Int32 → Int32 → Int32 → Int32 → Int32 → Prop) (hR52 : ∀ (M : Mem) (x1 : Int32) (x2 : Int32) (x3 : Int32) (x4 : Int32) (x5 : Int32) (x6 : Int32), R52 M x1 x2 x3 x4 x5 x6 → WX K X 8 (Qi X Q) M 52 [(0, .ref (ad X 85)), (1, .int x1), (2, .int x2), (3, .int x3), (4, .int x4), (5, .int x5), (6, .int x6)] []) (M : Mem) (x1 : Int32) (x2 : Int32) (x3 : Int32) (x4 : Int32) (x5 : Int32) (x6 : Int32), wJ_X9_gifts_114  Q R52 M x1 x2 x3 x4 x5 x6 → WX K X 8 (Qi X Q) M 114 [(0, .ref (ad X 85)), (1, .int x1), (2, .int x2), (3, .int x3), (4, .int x4), (5, .int x5), (6, .int x6)] [] := by
    intro R52 hR52 M x1 x2 x3 x4 x5 x6 h
    unfold wJ_X9_gifts_114 at h
    refine r_iconst (pc := 114) (v := 1) C dX9_gifts_114 (by decide) ?_
    refine r_goto (pc := 115) (tgt := 119) C dX9_gifts_115 (by decide) ?_
    refine r_sub (lv2 := [(0, .ref (ad X 85)), (1, .int x1), (2, .int x2), (3, .int x3), (4, .int x4), (5, .int x5), (6, .int x6)]) [0, 1, 2, 3, 4, 5, 6] rfl ?_
    exact hJ119 _ hR52 _ _ _ _ _ _ _ _ h
  have hL52 : ∀  (n : Nat) (M : Mem) (x1 : Int32) (x2 : Int32) (x3 : Int32) (x4 : Int32) (x5 : Int32) (x6 : Int32), wL_X9_gifts_52  Q  n M x1 x2 x3 x4 x5 x6 → WX K X 8 (Qi X Q) M 52 [(0, .ref (ad X 85)), (1, .int x1), (2, .int x2), (3, .int x3), (4, .int x4), (5, .int x5), (6, .int x6)] [] := by
    intro  n
    induction n with
    | zero => intro M x1 x2 x3 x4 x5 x6 h; exact absurd h id
    | succ n ih =>
      intro M x1 x2 x3 x4 x5 x6 h
      replace h := wL_X9_gifts_52_s h
      unfold wB_X9_gifts_52 at h
      refine r_iload (pc := 52) C 6 dX9_gifts_52 rfl ?_
      refine r_sipush (pc := 54) (v := 729) C dX9_gifts_54 (by decide) ?_
      refine r_icmp_ge (pc := 57) (tgt := 159) C dX9_gifts_57 (by decide) (fun c1 => ?_) (fun c1 => ?_)
      · have h := h.1 c1
        refine r_iload (pc := 159) C 5 dX9_gifts_159 rfl ?_
        refine r_ldc (pc := 161) C aw330 dX9_gifts_161 ?_
        refine r_icmp_ne (pc := 163) (tgt := 171) C dX9_gifts_163 (by decide) (fun c2 => ?_) (fun c2 => ?_)
        · have h := h.1 c2
          refine r_iload_n (pc := 171) C 3 dX9_gifts_171 rfl ?_
          refine r_if_ne (pc := 172) (tgt := 180) C dX9_gifts_172 (by decide) (fun c3 => ?_) (fun c3 => ?_)
          · have h := h.1 c3
            refine r_iload (pc := 180) C 5 dX9_gifts_180 rfl ?_
            exact r_iret (pc := 182) C dX9_gifts_182 h
          · have h := h.2 c3
            refine r_iload (pc := 175) C 4 dX9_gifts_175 rfl ?_
            refine r_goto (pc := 177) (tgt := 182) C dX9_gifts_177 (by decide) ?_
            exact r_iret (pc := 182) C dX9_gifts_182 h
        · have h := h.2 c2
          refine r_ldc (pc := 166) C aw330 dX9_gifts_166 ?_
          refine r_goto (pc := 168) (tgt := 182) C dX9_gifts_168 (by decide) ?_
          exact r_iret (pc := 182) C dX9_gifts_182 h
      · have h := h.2 c1
        refine r_aload_n (pc := 60) C 0 dX9_gifts_60 rfl ?_
        refine r_iload_n (pc := 61) C 1 dX9_gifts_61 rfl ?_
        refine r_iload_n (pc := 62) C 2 dX9_gifts_62 rfl ?_
        refine r_iload (pc := 63) C 6 dX9_gifts_63 rfl ?_
        have hM := c_X9_pollOf X  M x1 x2 x6 _ h
        refine q_s0 (s1 := List.reverse [.int x1, .int x2, .int x6] ++ .ref (ad X 85) :: []) rfl ?_
        refine r_callVi (pc := 65) (k := 85) (As := [.int x1, .int x2, .int x6]) (st := []) C 3 (by decide) (ce85 _) rfl aw738 aw739 hM aw737 aw740 aw5 yd_X9_pollOf ⟨rfl, rfl⟩ ⟨Nat.le_of_ble_eq_true rfl, Nat.le_of_ble_eq_true rfl⟩ rfl (Nat.le_of_ble_eq_true rfl) dX9_gifts_65 (fun r5 M4 h => ?_)
        refine r_if_le (pc := 68) (tgt := 153) C dX9_gifts_68 (by decide) (fun c6 => ?_) (fun c6 => ?_)
        · have h := h.1 c6
          obtain ⟨v7, ev7⟩ : ∃ z : Int32, z = x6 + 1 := ⟨_, rfl⟩
          replace h := h v7 ev7
          refine r_iinc (pc := 153) (v := v7) (lv2 := [(6, .int v7), (0, .ref (ad X 85)), (1, .int x1), (2, .int x2), (3, .int x3), (4, .int x4), (5, .int x5)]) C 6 dX9_gifts_153 rfl (by rw [ev7]; rfl) (by decide) rfl ?_
          refine r_goto (pc := 156) (tgt := 52) C dX9_gifts_156 (by decide) ?_
          refine r_sub (lv2 := [(0, .ref (ad X 85)), (1, .int x1), (2, .int x2), (3, .int x3), (4, .int x4), (5, .int x5), (6, .int v7)]) [1, 2, 3, 4, 5, 6, 0] rfl ?_
          exact ih _ _ _ _ _ _ _ h
        · have h := h.2 c6
          refine r_aload_n (pc := 71) C 0 dX9_gifts_71 rfl ?_
          refine r_iload_n (pc := 72) C 1 dX9_gifts_72 rfl ?_
          refine r_iload (pc := 73) C 6 dX9_gifts_73 rfl ?_
          have hM := c_X9_layTaken X  M4 x1 x6 _ h
          refine q_s0 (s1 := List.reverse [.int x1, .int x6] ++ .ref (ad X 85) :: []) rfl ?_
          refine r_callVv (pc := 75) (k := 85) (As := [.int x1, .int x6]) (st := []) C 2 (by decide) (ce85 _) rfl aw746 aw747 hM aw745 aw748 aw5 yd_X9_layTaken ⟨rfl, rfl⟩ ⟨Nat.le_of_ble_eq_true rfl, Nat.le_of_ble_eq_true rfl⟩ rfl (Nat.le_of_ble_eq_true rfl) dX9_gifts_75 (fun M8 h => ?_)
          refine r_aload_n (pc := 78) C 0 dX9_gifts_78 rfl ?_
          refine r_get (pc := 79) (k := 85) (j := 19) (Cn := RX9) (T := TX9) (N := 21) C (by decide) (ce85 _) rfl iaX9 (by decide) aw735 rfl rfl dX9_gifts_79 ?_
          refine r_iload (pc := 82) C 4 dX9_gifts_82 rfl ?_
          refine r_icmp_lt (pc := 84) (tgt := 114) C dX9_gifts_84 (by decide) (fun c10 => ?_) (fun c10 => ?_)
          · have h := h.1 c10
            refine r_sub (lv2 := [(0, .ref (ad X 85)), (1, .int x1), (2, .int x2), (3, .int x3), (4, .int x4), (5, .int x5), (6, .int x6)]) [0, 1, 2, 3, 4, 5, 6] rfl ?_
            exact hJ114 _ ih _ _ _ _ _ _ _ h
          · have h := h.2 c10
            refine r_aload_n (pc := 87) C 0 dX9_gifts_87 rfl ?_
            refine r_get (pc := 88) (k := 85) (j := 19) (Cn := RX9) (T := TX9) (N := 21) C (by decide) (ce85 _) rfl iaX9 (by decide) aw735 rfl rfl dX9_gifts_88 ?_
            refine r_iload (pc := 91) C 4 dX9_gifts_91 rfl ?_
            refine r_icmp_ne (pc := 93) (tgt := 118) C dX9_gifts_93 (by decide) (fun c11 => ?_) (fun c11 => ?_)
            · have h := h.1 c11
              refine r_sub (lv2 := [(0, .ref (ad X 85)), (1, .int x1), (2, .int x2), (3, .int x3), (4, .int x4), (5, .int x5), (6, .int x6)]) [0, 1, 2, 3, 4, 5, 6] rfl ?_
              exact hJ118 _ ih _ _ _ _ _ _ _ h
            · have h := h.2 c11
              refine r_aload_n (pc := 96) C 0 dX9_gifts_96 rfl ?_
              refine r_get (pc := 97) (k := 85) (j := 19) (Cn := RX9) (T := TX9) (N := 21) C (by decide) (ce85 _) rfl iaX9 (by decide) aw735 rfl rfl dX9_gifts_97 ?_
              refine r_bipush (pc := 100) (v := 41) C dX9_gifts_100 (by decide) ?_
              refine r_icmp_ge (pc := 102) (tgt := 118) C dX9_gifts_102 (by decide) (fun c12 => ?_) (fun c12 => ?_)
              · have h := h.1 c12
                refine r_sub (lv2 := [(0, .ref (ad X 85)), (1, .int x1), (2, .int x2), (3, .int x3), (4, .int x4), (5, .int x5), (6, .int x6)]) [0, 1, 2, 3, 4, 5, 6] rfl ?_
                exact hJ118 _ ih _ _ _ _ _ _ _ h
              · have h := h.2 c12
                refine r_aload_n (pc := 105) C 0 dX9_gifts_105 rfl ?_
                refine r_get (pc := 106) (k := 85) (j := 20) (Cn := RX9) (T := TX9) (N := 21) C (by decide) (ce85 _) rfl iaX9 (by decide) aw736 rfl rfl dX9_gifts_106 ?_
                refine r_iload (pc := 109) C 5 dX9_gifts_109 rfl ?_
                refine r_icmp_ge (pc := 111) (tgt := 118) C dX9_gifts_111 (by decide) (fun c13 => ?_) (fun c13 => ?_)
                · have h := h.1 c13
                  refine r_sub (lv2 := [(0, .ref (ad X 85)), (1, .int x1), (2, .int x2), (3, .int x3), (4, .int x4), (5, .int x5), (6, .int x6)]) [0, 1, 2, 3, 4, 5, 6] rfl ?_
                  exact hJ118 _ ih _ _ _ _ _ _ _ h
                · have h := h.2 c13
                  refine r_sub (lv2 := [(0, .ref (ad X 85)), (1, .int x1), (2, .int x2), (3, .int x3), (4, .int x4), (5, .int x5), (6, .int x6)]) [0, 1, 2, 3, 4, 5, 6] rfl ?_
                  exact hJ114 _ ih _ _ _ _ _ _ _ h
  unfold w_X9_gifts at h
  refine r_aload_n (pc := 0) C 0 dX9_gifts_0 rfl ?_
  refine r_iload_n (pc := 1) C 1 dX9_gifts_1 rfl ?_
  have hM := c_X9_isPerson X  M x1 _ h
  refine q_s0 (s1 := List.reverse [.int x1] ++ .ref (ad X 85) :: []) rfl ?_
  refine r_callVi (pc := 2) (k := 85) (As := [.int x1]) (st := []) C 1 (by decide) (ce85 _) rfl aw484 aw485 hM aw483 aw486 aw5 yd_X9_isPerson ⟨rfl, rfl⟩ ⟨Nat.le_of_ble_eq_true rfl, Nat.le_of_ble_eq_true rfl⟩ rfl (Nat.le_of_ble_eq_true rfl) dX9_gifts_2 (fun r2 M1 h => ?_)
  refine r_if_eq (pc := 5) (tgt := 26) C dX9_gifts_5 (by decide) (fun c3 => ?_) (fun c3 => ?_)
  · have h := h.1 c3
    refine r_ldc (pc := 26) C aw142 dX9_gifts_26 ?_
    exact r_iret (pc := 28) C dX9_gifts_28 h
  · have h := h.2 c3
    refine r_aload_n (pc := 8) C 0 dX9_gifts_8 rfl ?_
    refine r_iload_n (pc := 9) C 2 dX9_gifts_9 rfl ?_
    have hM := c_X9_isDoor X  M1 x2 _ h
    refine q_s0 (s1 := List.reverse [.int x2] ++ .ref (ad X 85) :: []) rfl ?_
    refine r_callVi (pc := 10) (k := 85) (As := [.int x2]) (st := []) C 1 (by decide) (ce85 _) rfl aw488 aw489 hM aw487 aw490 aw5 yd_X9_isDoor ⟨rfl, rfl⟩ ⟨Nat.le_of_ble_eq_true rfl, Nat.le_of_ble_eq_true rfl⟩ rfl (Nat.le_of_ble_eq_true rfl) dX9_gifts_10 (fun r5 M4 h => ?_)
    refine r_if_eq (pc := 13) (tgt := 26) C dX9_gifts_13 (by decide) (fun c6 => ?_) (fun c6 => ?_)
    · have h := h.1 c6
      refine r_ldc (pc := 26) C aw142 dX9_gifts_26 ?_
      exact r_iret (pc := 28) C dX9_gifts_28 h
    · have h := h.2 c6
      refine r_iload_n (pc := 16) C 3 dX9_gifts_16 rfl ?_
      refine r_i2l (pc := 17) C dX9_gifts_17 ?_
      refine r_lconst (pc := 18) (v := 0) C dX9_gifts_18 (by decide) ?_
      refine r_lconst (pc := 19) (v := 1) C dX9_gifts_19 (by decide) ?_
      have hM := c_X9_in X  M4 (Int32.toInt64 x3) 0 1 _ h
      refine q_s0 (s1 := List.reverse [.long (Int32.toInt64 x3), .long 0, .long 1] ++ []) rfl ?_
      refine r_callSi (pc := 20) (As := [.long (Int32.toInt64 x3), .long 0, .long 1]) (st := []) C 3 hM aw147 aw148 aw149 aw5 yd_X9_in ⟨rfl, rfl⟩ ⟨Nat.le_of_ble_eq_true rfl, Nat.le_of_ble_eq_true rfl⟩ rfl (Nat.le_of_ble_eq_true rfl) dX9_gifts_20 (fun r8 M7 h => ?_)
      refine r_if_ne (pc := 23) (tgt := 29) C dX9_gifts_23 (by decide) (fun c9 => ?_) (fun c9 => ?_)
      · have h := h.1 c9
        refine r_aload_n (pc := 29) C 0 dX9_gifts_29 rfl ?_
        refine r_iconst (pc := 30) (v := 0) C dX9_gifts_30 (by decide) ?_
        refine r_iload_n (pc := 31) C 1 dX9_gifts_31 rfl ?_
        refine r_iload_n (pc := 32) C 2 dX9_gifts_32 rfl ?_
        have hM := c_X9_opens X  M7 0 x1 x2 _ h
        refine q_s0 (s1 := List.reverse [.int 0, .int x1, .int x2] ++ .ref (ad X 85) :: []) rfl ?_
        refine r_callVi (pc := 33) (k := 85) (As := [.int 0, .int x1, .int x2]) (st := []) C 3 (by decide) (ce85 _) rfl aw508 aw509 hM aw507 aw510 aw5 yd_X9_opens ⟨rfl, rfl⟩ ⟨Nat.le_of_ble_eq_true rfl, Nat.le_of_ble_eq_true rfl⟩ rfl (Nat.le_of_ble_eq_true rfl) dX9_gifts_33 (fun r11 M10 h => ?_)
        refine r_if_eq (pc := 36) (tgt := 41) C dX9_gifts_36 (by decide) (fun c12 => ?_) (fun c12 => ?_)
        · have h := h.1 c12
          refine r_bipush (pc := 41) (v := 41) C dX9_gifts_41 (by decide) ?_
          refine r_istore (pc := 43) (lv2 := [(4, .int 41), (0, .ref (ad X 85)), (1, .int x1), (2, .int x2), (3, .int x3)]) C dX9_gifts_43 (by decide) rfl ?_
          refine r_ldc (pc := 45) C aw330 dX9_gifts_45 ?_
          refine r_istore (pc := 47) (lv2 := [(5, .int (-1000000)), (4, .int 41), (0, .ref (ad X 85)), (1, .int x1), (2, .int x2), (3, .int x3)]) C dX9_gifts_47 (by decide) rfl ?_
          refine r_iconst (pc := 49) (v := 0) C dX9_gifts_49 (by decide) ?_
          refine r_istore (pc := 50) (lv2 := [(6, .int 0), (5, .int (-1000000)), (4, .int 41), (0, .ref (ad X 85)), (1, .int x1), (2, .int x2), (3, .int x3)]) C dX9_gifts_50 (by decide) rfl ?_
          obtain ⟨n13, h⟩ := h
          refine r_sub (lv2 := [(0, .ref (ad X 85)), (1, .int x1), (2, .int x2), (3, .int x3), (4, .int 41), (5, .int (-1000000)), (6, .int 0)]) [3, 4, 5, 6, 2, 1, 0] rfl ?_
          exact hL52  _ _ _ _ _ _ _ _ h
        · have h := h.2 c12
          refine r_iconst (pc := 39) (v := 0) C dX9_gifts_39 (by decide) ?_
          exact r_iret (pc := 40) C dX9_gifts_40 h
      · have h := h.2 c9
        refine r_ldc (pc := 26) C aw142 dX9_gifts_26 ?_
        exact r_iret (pc := 28) C dX9_gifts_28 h
theorem yd_X9_parade : yX9_parade.cls ≠ "java/lang/invoke/MethodHandle" ∧ yX9_parade.cls ≠ "java/lang/invoke/VarHandle" ∧ (parseMethodDescriptor yX9_parade.desc).map (fun d => d.parameters.length) = some 3 := by decide +kernel
def wB_X9_parade_89  (Q : Int32 → Mem → Prop) (R36 : Mem → Int32 → Int32 → Int32 → Int32 → Int32 → Prop) (R89 : Mem → Int32 → Int32 → Int32 → Int32 → Int32 → Int32 → Prop) (M : Mem) (x1 : Int32) (x2 : Int32) (x3 : Int32) (x4 : Int32) (x5 : Int32) (x6 : Int32) : Prop :=
  (((M 86 3) ≤ x6) → (w_X9_opens  M 3402 x1 x2 (fun r3 M2 => ((r3 = 0) → (∀ v5 : Int32, v5 = x5 + 1 → (R36 M2 x1 x2 x3 x4 v5))) ∧ ((¬ r3 = 0) → (∀ v6 : Int32, v6 = x5 + 1 → (R36 M2 x1 x2 x3 x5 v6)))))) ∧ ((¬ (M 86 3) ≤ x6) → (w_X9_has  M x5 x6 (fun r8 M7 => ((r8 = 0) → (∀ v10 : Int32, v10 = x6 + 1 → (R89 M7 x1 x2 x3 x4 x5 v10))) ∧ ((¬ r8 = 0) → (w_X9_goThrough  M7 3402 x6 x2 (fun M11 => ∀ v13 : Int32, v13 = x6 + 1 → (R89 M11 x1 x2 x3 x4 x5 v13)))))))
def wL_X9_parade_89  (Q : Int32 → Mem → Prop) (R36 : Mem → Int32 → Int32 → Int32 → Int32 → Int32 → Prop) : Nat → Mem → Int32 → Int32 → Int32 → Int32 → Int32 → Int32 → Prop
  | 0 => fun _ _ _ _ _ _ _ => False
  | n + 1 => fun M x1 x2 x3 x4 x5 x6 => wB_X9_parade_89  Q R36 (wL_X9_parade_89  Q R36 n) M x1 x2 x3 x4 x5 x6
theorem wL_X9_parade_89_s  {Q : Int32 → Mem → Prop} {R36 : Mem → Int32 → Int32 → Int32 → Int32 → Int32 → Prop} {n : Nat} {M : Mem} {x1 : Int32} {x2 : Int32} {x3 : Int32} {x4 : Int32} {x5 : Int32} {x6 : Int32} (h : wL_X9_parade_89  Q R36 (n + 1) M x1 x2 x3 x4 x5 x6) : wB_X9_parade_89  Q R36 (wL_X9_parade_89  Q R36 n) M x1 x2 x3 x4 x5 x6 := h
def wJ_X9_parade_78  (Q : Int32 → Mem → Prop) (R36 : Mem → Int32 → Int32 → Int32 → Int32 → Int32 → Prop) (M : Mem) (x1 : Int32) (x2 : Int32) (x3 : Int32) (x4 : Int32) (x5 : Int32) : Prop :=
  w_X9_copyTown  M 0 3402 (fun M1 => ∃ n3 : Nat, wL_X9_parade_89  Q R36 n3 M1 x1 x2 x3 x4 x5 0)
def wB_X9_parade_36  (Q : Int32 → Mem → Prop)  (R36 : Mem → Int32 → Int32 → Int32 → Int32 → Int32 → Prop) (M : Mem) (x1 : Int32) (x2 : Int32) (x3 : Int32) (x4 : Int32) (x5 : Int32) : Prop :=
  (((1 <<< ((M 86 3) &&& 31)) ≤ x5) → (((x4 = (-1000000)) → (Q x4 M)) ∧ ((¬ x4 = (-1000000)) → (((¬ x3 = 1) → (w_X9_bits  M x4 (fun r5 M4 => Q r5 M4))) ∧ ((x3 = 1) → (Q x4 M)))))) ∧ ((¬ (1 <<< ((M 86 3) &&& 31)) ≤ x5) → (w_X9_has  M x5 x1 (fun r7 M6 => ((¬ r7 = 0) → (∀ v9 : Int32, v9 = x5 + 1 → (R36 M6 x1 x2 x3 x4 v9))) ∧ ((r7 = 0) → (((x4 = (-1000000)) → (wJ_X9_parade_78  Q R36 M6 x1 x2 x3 x4 x5)) ∧ ((¬ x4 = (-1000000)) → (w_X9_bits  M6 x5 (fun r12 M11 => w_X9_bits  M11 x4 (fun r14 M13 => ((r14 ≤ r12) → (∀ v16 : Int32, v16 = x5 + 1 → (R36 M13 x1 x2 x3 x4 v16))) ∧ ((¬ r14 ≤ r12) → (wJ_X9_parade_78  Q R36 M13 x1 x2 x3 x4 x5)))))))))))
def wL_X9_parade_36  (Q : Int32 → Mem → Prop)  : Nat → Mem → Int32 → Int32 → Int32 → Int32 → Int32 → Prop
  | 0 => fun _ _ _ _ _ _ => False
  | n + 1 => fun M x1 x2 x3 x4 x5 => wB_X9_parade_36  Q  (wL_X9_parade_36  Q  n) M x1 x2 x3 x4 x5
theorem wL_X9_parade_36_s  {Q : Int32 → Mem → Prop}  {n : Nat} {M : Mem} {x1 : Int32} {x2 : Int32} {x3 : Int32} {x4 : Int32} {x5 : Int32} (h : wL_X9_parade_36  Q  (n + 1) M x1 x2 x3 x4 x5) : wB_X9_parade_36  Q  (wL_X9_parade_36  Q  n) M x1 x2 x3 x4 x5 := h
def w_X9_parade  (M : Mem) (x1 : Int32) (x2 : Int32) (x3 : Int32) (Q : Int32 → Mem → Prop) : Prop :=
  w_X9_isPerson  M x1 (fun r2 M1 => ((r2 = 0) → (Q (-1000001) M1)) ∧ ((¬ r2 = 0) → (w_X9_isDoor  M1 x2 (fun r5 M4 => ((r5 = 0) → (Q (-1000001) M4)) ∧ ((¬ r5 = 0) → (w_X9_in  M4 (Int32.toInt64 x3) 0 1 (fun r8 M7 => ((¬ r8 = 0) → (∃ n10 : Nat, wL_X9_parade_36  Q  n10 M7 x1 x2 x3 (-1000000) 0)) ∧ ((r8 = 0) → (Q (-1000001) M7)))))))))
abbrev rm_X9_parade : Room := { frames := 18, cells := 0, slots := 0, locals := 360 }
set_option maxHeartbeats 4000000 in
set_option maxRecDepth 100000 in
theorem c_X9_parade (X : Cx)  (M : Mem) (x1 : Int32) (x2 : Int32) (x3 : Int32) (Q : Int32 → Mem → Prop) (h : w_X9_parade  M x1 x2 x3 Q) : Ct yX9_parade cX9_parade 7 (some .int) rm_X9_parade X M [.ref (ad X 85), .int x1, .int x2, .int x3] (Qi X Q) := by
  refine ct_of (own := RX9) (lv := [(0, .ref (ad X 85)), (1, .int x1), (2, .int x2), (3, .int x3)]) rfl (by decide) (Nat.le_of_ble_eq_true rfl) rfl ?_
  intro K C
  have hL89 : ∀ (R36 : Mem → Int32 → Int32 → Int32 → Int32 → Int32 → Prop) (hR36 : ∀ (M : Mem) (x1 : Int32) (x2 : Int32) (x3 : Int32) (x4 : Int32) (x5 : Int32), R36 M x1 x2 x3 x4 x5 → WX K X 7 (Qi X Q) M 36 [(0, .ref (ad X 85)), (1, .int x1), (2, .int x2), (3, .int x3), (4, .int x4), (5, .int x5)] []) (n : Nat) (M : Mem) (x1 : Int32) (x2 : Int32) (x3 : Int32) (x4 : Int32) (x5 : Int32) (x6 : Int32), wL_X9_parade_89  Q R36 n M x1 x2 x3 x4 x5 x6 → WX K X 7 (Qi X Q) M 89 [(0, .ref (ad X 85)), (1, .int x1), (2, .int x2), (3, .int x3), (4, .int x4), (5, .int x5), (6, .int x6)] [] := by
    intro R36 hR36 n
    induction n with
    | zero => intro M x1 x2 x3 x4 x5 x6 h; exact absurd h id
    | succ n ih =>
      intro M x1 x2 x3 x4 x5 x6 h
      replace h := wL_X9_parade_89_s h
      unfold wB_X9_parade_89 at h
      refine r_iload (pc := 89) C 6 dX9_parade_89 rfl ?_
      refine r_aload_n (pc := 91) C 0 dX9_parade_91 rfl ?_
      refine r_get (pc := 92) (k := 85) (j := 0) (Cn := RX9) (T := TX9) (N := 21) C (by decide) (ce85 _) rfl iaX9 (by decide) aw103 rfl rfl dX9_parade_92 ?_
      refine r_iconst (pc := 95) (v := 3) C dX9_parade_95 (by decide) ?_
      refine q_iald (pc := 96) (k := 86) (n := 3528) (j := 3) C (by decide) (ce86 _) (in_lit (by decide)) (by decide) dX9_parade_96 ?_
      refine r_icmp_ge (pc := 97) (tgt := 126) C dX9_parade_97 (by decide) (fun c1 => ?_) (fun c1 => ?_)
      · have h := h.1 c1
        refine r_aload_n (pc := 126) C 0 dX9_parade_126 rfl ?_
        refine r_sipush (pc := 127) (v := 3402) C dX9_parade_127 (by decide) ?_
        refine r_iload_n (pc := 130) C 1 dX9_parade_130 rfl ?_
        refine r_iload_n (pc := 131) C 2 dX9_parade_131 rfl ?_
        have hM := c_X9_opens X  M 3402 x1 x2 _ h
        refine q_s0 (s1 := List.reverse [.int 3402, .int x1, .int x2] ++ .ref (ad X 85) :: []) rfl ?_
        refine r_callVi (pc := 132) (k := 85) (As := [.int 3402, .int x1, .int x2]) (st := []) C 3 (by decide) (ce85 _) rfl aw508 aw509 hM aw507 aw510 aw5 yd_X9_opens ⟨rfl, rfl⟩ ⟨Nat.le_of_ble_eq_true rfl, Nat.le_of_ble_eq_true rfl⟩ rfl (Nat.le_of_ble_eq_true rfl) dX9_parade_132 (fun r3 M2 h => ?_)
        refine r_if_eq (pc := 135) (tgt := 143) C dX9_parade_135 (by decide) (fun c4 => ?_) (fun c4 => ?_)
        · have h := h.1 c4
          refine r_iload (pc := 143) C 4 dX9_parade_143 rfl ?_
          refine r_istore (pc := 145) (lv2 := [(4, .int x4), (0, .ref (ad X 85)), (1, .int x1), (2, .int x2), (3, .int x3), (5, .int x5), (6, .int x6)]) C dX9_parade_145 (by decide) rfl ?_
          obtain ⟨v5, ev5⟩ : ∃ z : Int32, z = x5 + 1 := ⟨_, rfl⟩
          replace h := h v5 ev5
          refine r_iinc (pc := 147) (v := v5) (lv2 := [(5, .int v5), (4, .int x4), (0, .ref (ad X 85)), (1, .int x1), (2, .int x2), (3, .int x3), (6, .int x6)]) C 5 dX9_parade_147 rfl (by rw [ev5]; rfl) (by decide) rfl ?_
          refine r_goto (pc := 150) (tgt := 36) C dX9_parade_150 (by decide) ?_
          refine r_sub (lv2 := [(0, .ref (ad X 85)), (1, .int x1), (2, .int x2), (3, .int x3), (4, .int x4), (5, .int v5)]) [2, 3, 4, 5, 1, 0] rfl ?_
          exact hR36 _ _ _ _ _ _ h
        · have h := h.2 c4
          refine r_iload (pc := 138) C 5 dX9_parade_138 rfl ?_
          refine r_goto (pc := 140) (tgt := 145) C dX9_parade_140 (by decide) ?_
          refine r_istore (pc := 145) (lv2 := [(4, .int x5), (0, .ref (ad X 85)), (1, .int x1), (2, .int x2), (3, .int x3), (5, .int x5), (6, .int x6)]) C dX9_parade_145 (by decide) rfl ?_
          obtain ⟨v6, ev6⟩ : ∃ z : Int32, z = x5 + 1 := ⟨_, rfl⟩
          replace h := h v6 ev6
          refine r_iinc (pc := 147) (v := v6) (lv2 := [(5, .int v6), (4, .int x5), (0, .ref (ad X 85)), (1, .int x1), (2, .int x2), (3, .int x3), (6, .int x6)]) C 5 dX9_parade_147 rfl (by rw [ev6]; rfl) (by decide) rfl ?_
          refine r_goto (pc := 150) (tgt := 36) C dX9_parade_150 (by decide) ?_
          refine r_sub (lv2 := [(0, .ref (ad X 85)), (1, .int x1), (2, .int x2), (3, .int x3), (4, .int x5), (5, .int v6)]) [2, 3, 4, 5, 1, 0] rfl ?_
          exact hR36 _ _ _ _ _ _ h
      · have h := h.2 c1
        refine r_iload (pc := 100) C 5 dX9_parade_100 rfl ?_
        refine r_iload (pc := 102) C 6 dX9_parade_102 rfl ?_
        have hM := c_X9_has X  M x5 x6 _ h
        refine q_s0 (s1 := List.reverse [.int x5, .int x6] ++ []) rfl ?_
        refine r_callSi (pc := 104) (As := [.int x5, .int x6]) (st := []) C 2 hM aw373 aw374 aw375 aw5 yd_X9_has ⟨rfl, rfl⟩ ⟨Nat.le_of_ble_eq_true rfl, Nat.le_of_ble_eq_true rfl⟩ rfl (Nat.le_of_ble_eq_true rfl) dX9_parade_104 (fun r8 M7 h => ?_)
        refine r_if_eq (pc := 107) (tgt := 120) C dX9_parade_107 (by decide) (fun c9 => ?_) (fun c9 => ?_)
        · have h := h.1 c9
          obtain ⟨v10, ev10⟩ : ∃ z : Int32, z = x6 + 1 := ⟨_, rfl⟩
          replace h := h v10 ev10
          refine r_iinc (pc := 120) (v := v10) (lv2 := [(6, .int v10), (0, .ref (ad X 85)), (1, .int x1), (2, .int x2), (3, .int x3), (4, .int x4), (5, .int x5)]) C 6 dX9_parade_120 rfl (by rw [ev10]; rfl) (by decide) rfl ?_
          refine r_goto (pc := 123) (tgt := 89) C dX9_parade_123 (by decide) ?_
          refine r_sub (lv2 := [(0, .ref (ad X 85)), (1, .int x1), (2, .int x2), (3, .int x3), (4, .int x4), (5, .int x5), (6, .int v10)]) [1, 2, 3, 4, 5, 6, 0] rfl ?_
          exact ih _ _ _ _ _ _ _ h
        · have h := h.2 c9
          refine r_aload_n (pc := 110) C 0 dX9_parade_110 rfl ?_
          refine r_sipush (pc := 111) (v := 3402) C dX9_parade_111 (by decide) ?_
          refine r_iload (pc := 114) C 6 dX9_parade_114 rfl ?_
          refine r_iload_n (pc := 116) C 2 dX9_parade_116 rfl ?_
          have hM := c_X9_goThrough X  M7 3402 x6 x2 _ h
          refine q_s0 (s1 := List.reverse [.int 3402, .int x6, .int x2] ++ .ref (ad X 85) :: []) rfl ?_
          refine r_callVv (pc := 117) (k := 85) (As := [.int 3402, .int x6, .int x2]) (st := []) C 3 (by decide) (ce85 _) rfl aw537 aw538 hM aw536 aw539 aw5 yd_X9_goThrough ⟨rfl, rfl⟩ ⟨Nat.le_of_ble_eq_true rfl, Nat.le_of_ble_eq_true rfl⟩ rfl (Nat.le_of_ble_eq_true rfl) dX9_parade_117 (fun M11 h => ?_)
          obtain ⟨v13, ev13⟩ : ∃ z : Int32, z = x6 + 1 := ⟨_, rfl⟩
          replace h := h v13 ev13
          refine r_iinc (pc := 120) (v := v13) (lv2 := [(6, .int v13), (0, .ref (ad X 85)), (1, .int x1), (2, .int x2), (3, .int x3), (4, .int x4), (5, .int x5)]) C 6 dX9_parade_120 rfl (by rw [ev13]; rfl) (by decide) rfl ?_
          refine r_goto (pc := 123) (tgt := 89) C dX9_parade_123 (by decide) ?_
          refine r_sub (lv2 := [(0, .ref (ad X 85)), (1, .int x1), (2, .int x2), (3, .int x3), (4, .int x4), (5, .int x5), (6, .int v13)]) [1, 2, 3, 4, 5, 6, 0] rfl ?_
          exact ih _ _ _ _ _ _ _ h
  have hJ78 : ∀ (R36 : Mem → Int32 → Int32 → Int32 → Int32 → Int32 → Prop) (hR36 : ∀ (M : Mem) (x1 : Int32) (x2 : Int32) (x3 : Int32) (x4 : Int32) (x5 : Int32), R36 M x1 x2 x3 x4 x5 → WX K X 7 (Qi X Q) M 36 [(0, .ref (ad X 85)), (1, .int x1), (2, .int x2), (3, .int x3), (4, .int x4), (5, .int x5)] []) (M : Mem) (x1 : Int32) (x2 : Int32) (x3 : Int32) (x4 : Int32) (x5 : Int32), wJ_X9_parade_78  Q R36 M x1 x2 x3 x4 x5 → WX K X 7 (Qi X Q) M 78 [(0, .ref (ad X 85)), (1, .int x1), (2, .int x2), (3, .int x3), (4, .int x4), (5, .int x5)] [] := by
    intro R36 hR36 M x1 x2 x3 x4 x5 h
    unfold wJ_X9_parade_78 at h
    refine r_aload_n (pc := 78) C 0 dX9_parade_78 rfl ?_
    refine r_iconst (pc := 79) (v := 0) C dX9_parade_79 (by decide) ?_
    refine r_sipush (pc := 80) (v := 3402) C dX9_parade_80 (by decide) ?_
    have hM := c_X9_copyTown X  M 0 3402 _ h
    refine q_s0 (s1 := List.reverse [.int 0, .int 3402] ++ .ref (ad X 85) :: []) rfl ?_
    refine r_callVv (pc := 83) (k := 85) (As := [.int 0, .int 3402]) (st := []) C 2 (by decide) (ce85 _) rfl aw377 aw378 hM aw376 aw379 aw5 yd_X9_copyTown ⟨rfl, rfl⟩ ⟨Nat.le_of_ble_eq_true rfl, Nat.le_of_ble_eq_true rfl⟩ rfl (Nat.le_of_ble_eq_true rfl) dX9_parade_83 (fun M1 h => ?_)
    refine r_iconst (pc := 86) (v := 0) C dX9_parade_86 (by decide) ?_
    refine r_istore (pc := 87) (lv2 := [(6, .int 0), (0, .ref (ad X 85)), (1, .int x1), (2, .int x2), (3, .int x3), (4, .int x4), (5, .int x5)]) C dX9_parade_87 (by decide) rfl ?_
    obtain ⟨n3, h⟩ := h
    refine r_sub (lv2 := [(0, .ref (ad X 85)), (1, .int x1), (2, .int x2), (3, .int x3), (4, .int x4), (5, .int x5), (6, .int 0)]) [1, 2, 3, 4, 5, 6, 0] rfl ?_
    exact hL89 _ hR36 _ _ _ _ _ _ _ _ h
  have hL36 : ∀  (n : Nat) (M : Mem) (x1 : Int32) (x2 : Int32) (x3 : Int32) (x4 : Int32) (x5 : Int32), wL_X9_parade_36  Q  n M x1 x2 x3 x4 x5 → WX K X 7 (Qi X Q) M 36 [(0, .ref (ad X 85)), (1, .int x1), (2, .int x2), (3, .int x3), (4, .int x4), (5, .int x5)] [] := by
    intro  n
    induction n with
    | zero => intro M x1 x2 x3 x4 x5 h; exact absurd h id
    | succ n ih =>
      intro M x1 x2 x3 x4 x5 h
      replace h := wL_X9_parade_36_s h
      unfold wB_X9_parade_36 at h
      refine r_iload (pc := 36) C 5 dX9_parade_36 rfl ?_
      refine r_iconst (pc := 38) (v := 1) C dX9_parade_38 (by decide) ?_
      refine r_aload_n (pc := 39) C 0 dX9_parade_39 rfl ?_
      refine r_get (pc := 40) (k := 85) (j := 0) (Cn := RX9) (T := TX9) (N := 21) C (by decide) (ce85 _) rfl iaX9 (by decide) aw103 rfl rfl dX9_parade_40 ?_
      refine r_iconst (pc := 43) (v := 3) C dX9_parade_43 (by decide) ?_
      refine q_iald (pc := 44) (k := 86) (n := 3528) (j := 3) C (by decide) (ce86 _) (in_lit (by decide)) (by decide) dX9_parade_44 ?_
      refine r_ishl (pc := 45) C dX9_parade_45 ?_
      refine r_icmp_ge (pc := 46) (tgt := 153) C dX9_parade_46 (by decide) (fun c1 => ?_) (fun c1 => ?_)
      · have h := h.1 c1
        refine r_iload (pc := 153) C 4 dX9_parade_153 rfl ?_
        refine r_ldc (pc := 155) C aw330 dX9_parade_155 ?_
        refine r_icmp_eq (pc := 157) (tgt := 165) C dX9_parade_157 (by decide) (fun c2 => ?_) (fun c2 => ?_)
        · have h := h.1 c2
          refine r_iload (pc := 165) C 4 dX9_parade_165 rfl ?_
          refine r_goto (pc := 167) (tgt := 175) C dX9_parade_167 (by decide) ?_
          exact r_iret (pc := 175) C dX9_parade_175 h
        · have h := h.2 c2
          refine r_iload_n (pc := 160) C 3 dX9_parade_160 rfl ?_
          refine r_iconst (pc := 161) (v := 1) C dX9_parade_161 (by decide) ?_
          refine r_icmp_ne (pc := 162) (tgt := 170) C dX9_parade_162 (by decide) (fun c3 => ?_) (fun c3 => ?_)
          · have h := h.1 c3
            refine r_iload (pc := 170) C 4 dX9_parade_170 rfl ?_
            have hM := c_X9_bits X  M x4 _ h
            refine q_s0 (s1 := List.reverse [.int x4] ++ []) rfl ?_
            refine r_callSi (pc := 172) (As := [.int x4]) (st := []) C 1 hM aw702 aw703 aw704 aw5 yd_X9_bits ⟨rfl, rfl⟩ ⟨Nat.le_of_ble_eq_true rfl, Nat.le_of_ble_eq_true rfl⟩ rfl (Nat.le_of_ble_eq_true rfl) dX9_parade_172 (fun r5 M4 h => ?_)
            exact r_iret (pc := 175) C dX9_parade_175 h
          · have h := h.2 c3
            refine r_iload (pc := 165) C 4 dX9_parade_165 rfl ?_
            refine r_goto (pc := 167) (tgt := 175) C dX9_parade_167 (by decide) ?_
            exact r_iret (pc := 175) C dX9_parade_175 h
      · have h := h.2 c1
        refine r_iload (pc := 49) C 5 dX9_parade_49 rfl ?_
        refine r_iload_n (pc := 51) C 1 dX9_parade_51 rfl ?_
        have hM := c_X9_has X  M x5 x1 _ h
        refine q_s0 (s1 := List.reverse [.int x5, .int x1] ++ []) rfl ?_
        refine r_callSi (pc := 52) (As := [.int x5, .int x1]) (st := []) C 2 hM aw373 aw374 aw375 aw5 yd_X9_has ⟨rfl, rfl⟩ ⟨Nat.le_of_ble_eq_true rfl, Nat.le_of_ble_eq_true rfl⟩ rfl (Nat.le_of_ble_eq_true rfl) dX9_parade_52 (fun r7 M6 h => ?_)
        refine r_if_ne (pc := 55) (tgt := 147) C dX9_parade_55 (by decide) (fun c8 => ?_) (fun c8 => ?_)
        · have h := h.1 c8
          obtain ⟨v9, ev9⟩ : ∃ z : Int32, z = x5 + 1 := ⟨_, rfl⟩
          replace h := h v9 ev9
          refine r_iinc (pc := 147) (v := v9) (lv2 := [(5, .int v9), (0, .ref (ad X 85)), (1, .int x1), (2, .int x2), (3, .int x3), (4, .int x4)]) C 5 dX9_parade_147 rfl (by rw [ev9]; rfl) (by decide) rfl ?_
          refine r_goto (pc := 150) (tgt := 36) C dX9_parade_150 (by decide) ?_
          refine r_sub (lv2 := [(0, .ref (ad X 85)), (1, .int x1), (2, .int x2), (3, .int x3), (4, .int x4), (5, .int v9)]) [1, 2, 3, 4, 5, 0] rfl ?_
          exact ih _ _ _ _ _ _ h
        · have h := h.2 c8
          refine r_iload (pc := 58) C 4 dX9_parade_58 rfl ?_
          refine r_ldc (pc := 60) C aw330 dX9_parade_60 ?_
          refine r_icmp_eq (pc := 62) (tgt := 78) C dX9_parade_62 (by decide) (fun c10 => ?_) (fun c10 => ?_)
          · have h := h.1 c10
            refine r_sub (lv2 := [(0, .ref (ad X 85)), (1, .int x1), (2, .int x2), (3, .int x3), (4, .int x4), (5, .int x5)]) [0, 1, 2, 3, 4, 5] rfl ?_
            exact hJ78 _ ih _ _ _ _ _ _ h
          · have h := h.2 c10
            refine r_iload (pc := 65) C 5 dX9_parade_65 rfl ?_
            have hM := c_X9_bits X  M6 x5 _ h
            refine q_s0 (s1 := List.reverse [.int x5] ++ []) rfl ?_
            refine r_callSi (pc := 67) (As := [.int x5]) (st := []) C 1 hM aw702 aw703 aw704 aw5 yd_X9_bits ⟨rfl, rfl⟩ ⟨Nat.le_of_ble_eq_true rfl, Nat.le_of_ble_eq_true rfl⟩ rfl (Nat.le_of_ble_eq_true rfl) dX9_parade_67 (fun r12 M11 h => ?_)
            refine r_iload (pc := 70) C 4 dX9_parade_70 rfl ?_
            have hM := c_X9_bits X  M11 x4 _ h
            refine q_s0 (s1 := List.reverse [.int x4] ++ [.int r12]) rfl ?_
            refine r_callSi (pc := 72) (As := [.int x4]) (st := [.int r12]) C 1 hM aw702 aw703 aw704 aw5 yd_X9_bits ⟨rfl, rfl⟩ ⟨Nat.le_of_ble_eq_true rfl, Nat.le_of_ble_eq_true rfl⟩ rfl (Nat.le_of_ble_eq_true rfl) dX9_parade_72 (fun r14 M13 h => ?_)
            refine r_icmp_ge (pc := 75) (tgt := 147) C dX9_parade_75 (by decide) (fun c15 => ?_) (fun c15 => ?_)
            · have h := h.1 c15
              obtain ⟨v16, ev16⟩ : ∃ z : Int32, z = x5 + 1 := ⟨_, rfl⟩
              replace h := h v16 ev16
              refine r_iinc (pc := 147) (v := v16) (lv2 := [(5, .int v16), (0, .ref (ad X 85)), (1, .int x1), (2, .int x2), (3, .int x3), (4, .int x4)]) C 5 dX9_parade_147 rfl (by rw [ev16]; rfl) (by decide) rfl ?_
              refine r_goto (pc := 150) (tgt := 36) C dX9_parade_150 (by decide) ?_
              refine r_sub (lv2 := [(0, .ref (ad X 85)), (1, .int x1), (2, .int x2), (3, .int x3), (4, .int x4), (5, .int v16)]) [1, 2, 3, 4, 5, 0] rfl ?_
              exact ih _ _ _ _ _ _ h
            · have h := h.2 c15
              refine r_sub (lv2 := [(0, .ref (ad X 85)), (1, .int x1), (2, .int x2), (3, .int x3), (4, .int x4), (5, .int x5)]) [0, 1, 2, 3, 4, 5] rfl ?_
              exact hJ78 _ ih _ _ _ _ _ _ h
  unfold w_X9_parade at h
  refine r_aload_n (pc := 0) C 0 dX9_parade_0 rfl ?_
  refine r_iload_n (pc := 1) C 1 dX9_parade_1 rfl ?_
  have hM := c_X9_isPerson X  M x1 _ h
  refine q_s0 (s1 := List.reverse [.int x1] ++ .ref (ad X 85) :: []) rfl ?_
  refine r_callVi (pc := 2) (k := 85) (As := [.int x1]) (st := []) C 1 (by decide) (ce85 _) rfl aw484 aw485 hM aw483 aw486 aw5 yd_X9_isPerson ⟨rfl, rfl⟩ ⟨Nat.le_of_ble_eq_true rfl, Nat.le_of_ble_eq_true rfl⟩ rfl (Nat.le_of_ble_eq_true rfl) dX9_parade_2 (fun r2 M1 h => ?_)
  refine r_if_eq (pc := 5) (tgt := 26) C dX9_parade_5 (by decide) (fun c3 => ?_) (fun c3 => ?_)
  · have h := h.1 c3
    refine r_ldc (pc := 26) C aw142 dX9_parade_26 ?_
    exact r_iret (pc := 28) C dX9_parade_28 h
  · have h := h.2 c3
    refine r_aload_n (pc := 8) C 0 dX9_parade_8 rfl ?_
    refine r_iload_n (pc := 9) C 2 dX9_parade_9 rfl ?_
    have hM := c_X9_isDoor X  M1 x2 _ h
    refine q_s0 (s1 := List.reverse [.int x2] ++ .ref (ad X 85) :: []) rfl ?_
    refine r_callVi (pc := 10) (k := 85) (As := [.int x2]) (st := []) C 1 (by decide) (ce85 _) rfl aw488 aw489 hM aw487 aw490 aw5 yd_X9_isDoor ⟨rfl, rfl⟩ ⟨Nat.le_of_ble_eq_true rfl, Nat.le_of_ble_eq_true rfl⟩ rfl (Nat.le_of_ble_eq_true rfl) dX9_parade_10 (fun r5 M4 h => ?_)
    refine r_if_eq (pc := 13) (tgt := 26) C dX9_parade_13 (by decide) (fun c6 => ?_) (fun c6 => ?_)
    · have h := h.1 c6
      refine r_ldc (pc := 26) C aw142 dX9_parade_26 ?_
      exact r_iret (pc := 28) C dX9_parade_28 h
    · have h := h.2 c6
      refine r_iload_n (pc := 16) C 3 dX9_parade_16 rfl ?_
      refine r_i2l (pc := 17) C dX9_parade_17 ?_
      refine r_lconst (pc := 18) (v := 0) C dX9_parade_18 (by decide) ?_
      refine r_lconst (pc := 19) (v := 1) C dX9_parade_19 (by decide) ?_
      have hM := c_X9_in X  M4 (Int32.toInt64 x3) 0 1 _ h
      refine q_s0 (s1 := List.reverse [.long (Int32.toInt64 x3), .long 0, .long 1] ++ []) rfl ?_
      refine r_callSi (pc := 20) (As := [.long (Int32.toInt64 x3), .long 0, .long 1]) (st := []) C 3 hM aw147 aw148 aw149 aw5 yd_X9_in ⟨rfl, rfl⟩ ⟨Nat.le_of_ble_eq_true rfl, Nat.le_of_ble_eq_true rfl⟩ rfl (Nat.le_of_ble_eq_true rfl) dX9_parade_20 (fun r8 M7 h => ?_)
      refine r_if_ne (pc := 23) (tgt := 29) C dX9_parade_23 (by decide) (fun c9 => ?_) (fun c9 => ?_)
      · have h := h.1 c9
        refine r_ldc (pc := 29) C aw330 dX9_parade_29 ?_
        refine r_istore (pc := 31) (lv2 := [(4, .int (-1000000)), (0, .ref (ad X 85)), (1, .int x1), (2, .int x2), (3, .int x3)]) C dX9_parade_31 (by decide) rfl ?_
        refine r_iconst (pc := 33) (v := 0) C dX9_parade_33 (by decide) ?_
        refine r_istore (pc := 34) (lv2 := [(5, .int 0), (4, .int (-1000000)), (0, .ref (ad X 85)), (1, .int x1), (2, .int x2), (3, .int x3)]) C dX9_parade_34 (by decide) rfl ?_
        obtain ⟨n10, h⟩ := h
        refine r_sub (lv2 := [(0, .ref (ad X 85)), (1, .int x1), (2, .int x2), (3, .int x3), (4, .int (-1000000)), (5, .int 0)]) [2, 3, 4, 5, 1, 0] rfl ?_
        exact hL36  _ _ _ _ _ _ _ h
      · have h := h.2 c9
        refine r_ldc (pc := 26) C aw142 dX9_parade_26 ?_
        exact r_iret (pc := 28) C dX9_parade_28 h
theorem yd_X9_newDoor : yX9_newDoor.cls ≠ "java/lang/invoke/MethodHandle" ∧ yX9_newDoor.cls ≠ "java/lang/invoke/VarHandle" ∧ (parseMethodDescriptor yX9_newDoor.desc).map (fun d => d.parameters.length) = some 3 := by decide +kernel
def wJ_X9_newDoor_140  (Q : Int32 → Mem → Prop) (R45 : Mem → Int32 → Int32 → Int32 → Int32 → Int32 → Int32 → Prop) (R62 : Mem → Int32 → Int32 → Int32 → Int32 → Int32 → Int32 → Int32 → Prop) (M : Mem) (x1 : Int32) (x2 : Int32) (x3 : Int32) (x5 : Int32) (x6 : Int32) (x7 : Int32) (x8 : Int32) (x9 : Int32) (s0 : Int32) : Prop :=
  ((x9 = 0) → (∀ v2 : Int32, v2 = x7 + 1 → (R62 M x1 x2 x3 s0 x5 x6 v2))) ∧ ((¬ x9 = 0) → (∀ v3 : Int32, v3 = x7 + 1 → (R62 M x1 x2 x3 s0 x8 x6 v3)))
def wJ_X9_newDoor_120  (Q : Int32 → Mem → Prop) (R45 : Mem → Int32 → Int32 → Int32 → Int32 → Int32 → Int32 → Prop) (R62 : Mem → Int32 → Int32 → Int32 → Int32 → Int32 → Int32 → Int32 → Prop) (M : Mem) (x1 : Int32) (x2 : Int32) (x3 : Int32) (x4 : Int32) (x5 : Int32) (x6 : Int32) (x7 : Int32) (x8 : Int32) (s0 : Int32) : Prop :=
  ((s0 = 0) → (wJ_X9_newDoor_140  Q R45 R62 M x1 x2 x3 x5 x6 x7 x8 s0 x4)) ∧ ((¬ s0 = 0) → (wJ_X9_newDoor_140  Q R45 R62 M x1 x2 x3 x5 x6 x7 x8 s0 ((10 * x6) + x7)))
def wJ_X9_newDoor_119  (Q : Int32 → Mem → Prop) (R45 : Mem → Int32 → Int32 → Int32 → Int32 → Int32 → Int32 → Prop) (R62 : Mem → Int32 → Int32 → Int32 → Int32 → Int32 → Int32 → Int32 → Prop) (M : Mem) (x1 : Int32) (x2 : Int32) (x3 : Int32) (x4 : Int32) (x5 : Int32) (x6 : Int32) (x7 : Int32) (x8 : Int32) : Prop :=
  wJ_X9_newDoor_120  Q R45 R62 M x1 x2 x3 x4 x5 x6 x7 x8 0
def wB_X9_newDoor_62  (Q : Int32 → Mem → Prop) (R45 : Mem → Int32 → Int32 → Int32 → Int32 → Int32 → Int32 → Prop) (R62 : Mem → Int32 → Int32 → Int32 → Int32 → Int32 → Int32 → Int32 → Prop) (M : Mem) (x1 : Int32) (x2 : Int32) (x3 : Int32) (x4 : Int32) (x5 : Int32) (x6 : Int32) (x7 : Int32) : Prop :=
  (((M 86 0) ≤ x7) → (∀ v2 : Int32, v2 = x6 + 1 → (R45 M x1 x2 x3 x4 x5 v2))) ∧ ((¬ (M 86 0) ≤ x7) → (∀ M3 : Mem, M3 = ms M 85 17 x6 → (∀ M4 : Mem, M4 = ms M3 85 18 x7 → (∀ v5 : Int32, v5 = (24 + x1) → (vp_in v5 3528 ∧ (w_X9_farFrom  M4 (M4 86 (Int32.toNatClampNeg v5)) x2 (fun r8 M7 => ((r8 = (-1000000)) → (wJ_X9_newDoor_119  Q R45 R62 M7 x1 x2 x3 x4 x5 x6 x7 r8)) ∧ ((¬ r8 = (-1000000)) → (((x5 ≤ r8) → (wJ_X9_newDoor_119  Q R45 R62 M7 x1 x2 x3 x4 x5 x6 x7 r8)) ∧ ((¬ x5 ≤ r8) → (wJ_X9_newDoor_120  Q R45 R62 M7 x1 x2 x3 x4 x5 x6 x7 r8 1)))))))))))
def wL_X9_newDoor_62  (Q : Int32 → Mem → Prop) (R45 : Mem → Int32 → Int32 → Int32 → Int32 → Int32 → Int32 → Prop) : Nat → Mem → Int32 → Int32 → Int32 → Int32 → Int32 → Int32 → Int32 → Prop
  | 0 => fun _ _ _ _ _ _ _ _ => False
  | n + 1 => fun M x1 x2 x3 x4 x5 x6 x7 => wB_X9_newDoor_62  Q R45 (wL_X9_newDoor_62  Q R45 n) M x1 x2 x3 x4 x5 x6 x7
theorem wL_X9_newDoor_62_s  {Q : Int32 → Mem → Prop} {R45 : Mem → Int32 → Int32 → Int32 → Int32 → Int32 → Int32 → Prop} {n : Nat} {M : Mem} {x1 : Int32} {x2 : Int32} {x3 : Int32} {x4 : Int32} {x5 : Int32} {x6 : Int32} {x7 : Int32} (h : wL_X9_newDoor_62  Q R45 (n + 1) M x1 x2 x3 x4 x5 x6 x7) : wB_X9_newDoor_62  Q R45 (wL_X9_newDoor_62  Q R45 n) M x1 x2 x3 x4 x5 x6 x7 := h
def wB_X9_newDoor_45  (Q : Int32 → Mem → Prop)  (R45 : Mem → Int32 → Int32 → Int32 → Int32 → Int32 → Int32 → Prop) (M : Mem) (x1 : Int32) (x2 : Int32) (x3 : Int32) (x4 : Int32) (x5 : Int32) (x6 : Int32) : Prop :=
  (((M 86 0) ≤ x6) → (((x4 = (-1000000)) → (Q x4 M)) ∧ ((¬ x4 = (-1000000)) → (((¬ x3 = 0) → (Q x5 M)) ∧ ((x3 = 0) → (Q x4 M)))))) ∧ ((¬ (M 86 0) ≤ x6) → (∀ v4 : Int32, v4 = (x6 + 1) → (∃ n5 : Nat, wL_X9_newDoor_62  Q R45 n5 M x1 x2 x3 x4 x5 x6 v4)))
def wL_X9_newDoor_45  (Q : Int32 → Mem → Prop)  : Nat → Mem → Int32 → Int32 → Int32 → Int32 → Int32 → Int32 → Prop
  | 0 => fun _ _ _ _ _ _ _ => False
  | n + 1 => fun M x1 x2 x3 x4 x5 x6 => wB_X9_newDoor_45  Q  (wL_X9_newDoor_45  Q  n) M x1 x2 x3 x4 x5 x6
theorem wL_X9_newDoor_45_s  {Q : Int32 → Mem → Prop}  {n : Nat} {M : Mem} {x1 : Int32} {x2 : Int32} {x3 : Int32} {x4 : Int32} {x5 : Int32} {x6 : Int32} (h : wL_X9_newDoor_45  Q  (n + 1) M x1 x2 x3 x4 x5 x6) : wB_X9_newDoor_45  Q  (wL_X9_newDoor_45  Q  n) M x1 x2 x3 x4 x5 x6 := h
def w_X9_newDoor  (M : Mem) (x1 : Int32) (x2 : Int32) (x3 : Int32) (Q : Int32 → Mem → Prop) : Prop :=
  w_X9_isPerson  M x1 (fun r2 M1 => ((r2 = 0) → (Q (-1000001) M1)) ∧ ((¬ r2 = 0) → (w_X9_isRoom  M1 x2 (fun r5 M4 => ((r5 = 0) → (Q (-1000001) M4)) ∧ ((¬ r5 = 0) → (w_X9_in  M4 (Int32.toInt64 x3) 0 1 (fun r8 M7 => ((¬ r8 = 0) → (w_X9_layOpen  M7 x1 (fun M10 => ∃ n12 : Nat, wL_X9_newDoor_45  Q  n12 M10 x1 x2 x3 (-1000000) 99 0))) ∧ ((r8 = 0) → (Q (-1000001) M7)))))))))
abbrev rm_X9_newDoor : Room := { frames := 21, cells := 0, slots := 0, locals := 420 }
set_option maxHeartbeats 4000000 in
set_option maxRecDepth 100000 in
theorem c_X9_newDoor (X : Cx)  (M : Mem) (x1 : Int32) (x2 : Int32) (x3 : Int32) (Q : Int32 → Mem → Prop) (h : w_X9_newDoor  M x1 x2 x3 Q) : Ct yX9_newDoor cX9_newDoor 10 (some .int) rm_X9_newDoor X M [.ref (ad X 85), .int x1, .int x2, .int x3] (Qi X Q) := by
  refine ct_of (own := RX9) (lv := [(0, .ref (ad X 85)), (1, .int x1), (2, .int x2), (3, .int x3)]) rfl (by decide) (Nat.le_of_ble_eq_true rfl) rfl ?_
  intro K C
  have hJ140 : ∀ (R45 : Mem → Int32 → Int32 → Int32 → Int32 → Int32 → Int32 → Prop) (hR45 : ∀ (M : Mem) (x1 : Int32) (x2 : Int32) (x3 : Int32) (x4 : Int32) (x5 : Int32) (x6 : Int32), R45 M x1 x2 x3 x4 x5 x6 → WX K X 10 (Qi X Q) M 45 [(0, .ref (ad X 85)), (1, .int x1), (2, .int x2), (3, .int x3), (4, .int x4), (5, .int x5), (6, .int x6)] []) (R62 : Mem → Int32 → Int32 → Int32 → Int32 → Int32 → Int32 → Int32 → Prop) (hR62 : ∀ (M : Mem) (x1 : Int32) (x2 : Int32) (x3 : Int32) (x4 : Int32) (x5 : Int32) (x6 : Int32) (x7 : Int32), R62 M x1 x2 x3 x4 x5 x6 x7 → WX K X 10 (Qi X Q) M 62 [(0, .ref (ad X 85)), (1, .int x1), (2, .int x2), (3, .int x3), (4, .int x4), (5, .int x5), (6, .int x6), (7, .int x7)] []) (M : Mem) (x1 : Int32) (x2 : Int32) (x3 : Int32) (x5 : Int32) (x6 : Int32) (x7 : Int32) (x8 : Int32) (x9 : Int32) (s0 : Int32), wJ_X9_newDoor_140  Q R45 R62 M x1 x2 x3 x5 x6 x7 x8 x9 s0 → WX K X 10 (Qi X Q) M 140 [(0, .ref (ad X 85)), (1, .int x1), (2, .int x2), (3, .int x3), (5, .int x5), (6, .int x6), (7, .int x7), (8, .int x8), (9, .int x9)] [.int s0] := by
    intro R45 hR45 R62 hR62 M x1 x2 x3 x5 x6 x7 x8 x9 s0 h
    unfold wJ_X9_newDoor_140 at h
    refine r_istore (pc := 140) (lv2 := [(4, .int s0), (0, .ref (ad X 85)), (1, .int x1), (2, .int x2), (3, .int x3), (5, .int x5), (6, .int x6), (7, .int x7), (8, .int x8), (9, .int x9)]) C dX9_newDoor_140 (by decide) rfl ?_
    refine r_iload (pc := 142) C 9 dX9_newDoor_142 rfl ?_
    refine r_if_eq (pc := 144) (tgt := 152) C dX9_newDoor_144 (by decide) (fun c1 => ?_) (fun c1 => ?_)
    · have h := h.1 c1
      refine r_iload (pc := 152) C 5 dX9_newDoor_152 rfl ?_
      refine r_istore (pc := 154) (lv2 := [(5, .int x5), (4, .int s0), (0, .ref (ad X 85)), (1, .int x1), (2, .int x2), (3, .int x3), (6, .int x6), (7, .int x7), (8, .int x8), (9, .int x9)]) C dX9_newDoor_154 (by decide) rfl ?_
      obtain ⟨v2, ev2⟩ : ∃ z : Int32, z = x7 + 1 := ⟨_, rfl⟩
      replace h := h v2 ev2
      refine r_iinc (pc := 156) (v := v2) (lv2 := [(7, .int v2), (5, .int x5), (4, .int s0), (0, .ref (ad X 85)), (1, .int x1), (2, .int x2), (3, .int x3), (6, .int x6), (8, .int x8), (9, .int x9)]) C 7 dX9_newDoor_156 rfl (by rw [ev2]; rfl) (by decide) rfl ?_
      refine r_goto (pc := 159) (tgt := 62) C dX9_newDoor_159 (by decide) ?_
      refine r_sub (lv2 := [(0, .ref (ad X 85)), (1, .int x1), (2, .int x2), (3, .int x3), (4, .int s0), (5, .int x5), (6, .int x6), (7, .int v2)]) [3, 4, 5, 6, 2, 1, 7, 0] rfl ?_
      exact hR62 _ _ _ _ _ _ _ _ h
    · have h := h.2 c1
      refine r_iload (pc := 147) C 8 dX9_newDoor_147 rfl ?_
      refine r_goto (pc := 149) (tgt := 154) C dX9_newDoor_149 (by decide) ?_
      refine r_istore (pc := 154) (lv2 := [(5, .int x8), (4, .int s0), (0, .ref (ad X 85)), (1, .int x1), (2, .int x2), (3, .int x3), (6, .int x6), (7, .int x7), (8, .int x8), (9, .int x9)]) C dX9_newDoor_154 (by decide) rfl ?_
      obtain ⟨v3, ev3⟩ : ∃ z : Int32, z = x7 + 1 := ⟨_, rfl⟩
      replace h := h v3 ev3
      refine r_iinc (pc := 156) (v := v3) (lv2 := [(7, .int v3), (5, .int x8), (4, .int s0), (0, .ref (ad X 85)), (1, .int x1), (2, .int x2), (3, .int x3), (6, .int x6), (8, .int x8), (9, .int x9)]) C 7 dX9_newDoor_156 rfl (by rw [ev3]; rfl) (by decide) rfl ?_
      refine r_goto (pc := 159) (tgt := 62) C dX9_newDoor_159 (by decide) ?_
      refine r_sub (lv2 := [(0, .ref (ad X 85)), (1, .int x1), (2, .int x2), (3, .int x3), (4, .int s0), (5, .int x8), (6, .int x6), (7, .int v3)]) [3, 4, 5, 6, 2, 1, 7, 0] rfl ?_
      exact hR62 _ _ _ _ _ _ _ _ h
  have hJ120 : ∀ (R45 : Mem → Int32 → Int32 → Int32 → Int32 → Int32 → Int32 → Prop) (hR45 : ∀ (M : Mem) (x1 : Int32) (x2 : Int32) (x3 : Int32) (x4 : Int32) (x5 : Int32) (x6 : Int32), R45 M x1 x2 x3 x4 x5 x6 → WX K X 10 (Qi X Q) M 45 [(0, .ref (ad X 85)), (1, .int x1), (2, .int x2), (3, .int x3), (4, .int x4), (5, .int x5), (6, .int x6)] []) (R62 : Mem → Int32 → Int32 → Int32 → Int32 → Int32 → Int32 → Int32 → Prop) (hR62 : ∀ (M : Mem) (x1 : Int32) (x2 : Int32) (x3 : Int32) (x4 : Int32) (x5 : Int32) (x6 : Int32) (x7 : Int32), R62 M x1 x2 x3 x4 x5 x6 x7 → WX K X 10 (Qi X Q) M 62 [(0, .ref (ad X 85)), (1, .int x1), (2, .int x2), (3, .int x3), (4, .int x4), (5, .int x5), (6, .int x6), (7, .int x7)] []) (M : Mem) (x1 : Int32) (x2 : Int32) (x3 : Int32) (x4 : Int32) (x5 : Int32) (x6 : Int32) (x7 : Int32) (x8 : Int32) (s0 : Int32), wJ_X9_newDoor_120  Q R45 R62 M x1 x2 x3 x4 x5 x6 x7 x8 s0 → WX K X 10 (Qi X Q) M 120 [(0, .ref (ad X 85)), (1, .int x1), (2, .int x2), (3, .int x3), (4, .int x4), (5, .int x5), (6, .int x6), (7, .int x7), (8, .int x8)] [.int s0] := by
    intro R45 hR45 R62 hR62 M x1 x2 x3 x4 x5 x6 x7 x8 s0 h
    unfold wJ_X9_newDoor_120 at h
    refine r_istore (pc := 120) (lv2 := [(9, .int s0), (0, .ref (ad X 85)), (1, .int x1), (2, .int x2), (3, .int x3), (4, .int x4), (5, .int x5), (6, .int x6), (7, .int x7), (8, .int x8)]) C dX9_newDoor_120 (by decide) rfl ?_
    refine r_iload (pc := 122) C 0 dX9_newDoor_122 rfl ?_
    refine r_if_eq (pc := 124) (tgt := 138) C dX9_newDoor_124 (by decide) (fun c1 => ?_) (fun c1 => ?_)
    · have h := h.1 c1
      refine r_iload (pc := 138) C 5 dX9_newDoor_138 rfl ?_
      refine r_sub (lv2 := [(0, .ref (ad X 85)), (1, .int x1), (2, .int x2), (3, .int x3), (5, .int x5), (6, .int x6), (7, .int x7), (8, .int x8), (9, .int s0)]) [1, 2, 3, 4, 6, 7, 8, 9, 0] rfl ?_
      exact hJ140 _ hR45 _ hR62 _ _ _ _ _ _ _ _ _ _ h
    · have h := h.2 c1
      refine r_bipush (pc := 127) (v := 10) C dX9_newDoor_127 (by decide) ?_
      refine r_iload (pc := 129) C 7 dX9_newDoor_129 rfl ?_
      refine r_imul (pc := 131) C dX9_newDoor_131 ?_
      refine r_iload (pc := 132) C 8 dX9_newDoor_132 rfl ?_
      refine r_iadd (pc := 134) C dX9_newDoor_134 ?_
      refine r_goto (pc := 135) (tgt := 140) C dX9_newDoor_135 (by decide) ?_
      refine r_sub (lv2 := [(0, .ref (ad X 85)), (1, .int x1), (2, .int x2), (3, .int x3), (5, .int x5), (6, .int x6), (7, .int x7), (8, .int x8), (9, .int s0)]) [1, 2, 3, 4, 6, 7, 8, 9, 0] rfl ?_
      exact hJ140 _ hR45 _ hR62 _ _ _ _ _ _ _ _ _ _ h
  have hJ119 : ∀ (R45 : Mem → Int32 → Int32 → Int32 → Int32 → Int32 → Int32 → Prop) (hR45 : ∀ (M : Mem) (x1 : Int32) (x2 : Int32) (x3 : Int32) (x4 : Int32) (x5 : Int32) (x6 : Int32), R45 M x1 x2 x3 x4 x5 x6 → WX K X 10 (Qi X Q) M 45 [(0, .ref (ad X 85)), (1, .int x1), (2, .int x2), (3, .int x3), (4, .int x4), (5, .int x5), (6, .int x6)] []) (R62 : Mem → Int32 → Int32 → Int32 → Int32 → Int32 → Int32 → Int32 → Prop) (hR62 : ∀ (M : Mem) (x1 : Int32) (x2 : Int32) (x3 : Int32) (x4 : Int32) (x5 : Int32) (x6 : Int32) (x7 : Int32), R62 M x1 x2 x3 x4 x5 x6 x7 → WX K X 10 (Qi X Q) M 62 [(0, .ref (ad X 85)), (1, .int x1), (2, .int x2), (3, .int x3), (4, .int x4), (5, .int x5), (6, .int x6), (7, .int x7)] []) (M : Mem) (x1 : Int32) (x2 : Int32) (x3 : Int32) (x4 : Int32) (x5 : Int32) (x6 : Int32) (x7 : Int32) (x8 : Int32), wJ_X9_newDoor_119  Q R45 R62 M x1 x2 x3 x4 x5 x6 x7 x8 → WX K X 10 (Qi X Q) M 119 [(0, .ref (ad X 85)), (1, .int x1), (2, .int x2), (3, .int x3), (4, .int x4), (5, .int x5), (6, .int x6), (7, .int x7), (8, .int x8)] [] := by
    intro R45 hR45 R62 hR62 M x1 x2 x3 x4 x5 x6 x7 x8 h
    unfold wJ_X9_newDoor_119 at h
    refine r_iconst (pc := 119) (v := 0) C dX9_newDoor_119 (by decide) ?_
    refine r_sub (lv2 := [(0, .ref (ad X 85)), (1, .int x1), (2, .int x2), (3, .int x3), (4, .int x4), (5, .int x5), (6, .int x6), (7, .int x7), (8, .int x8)]) [0, 1, 2, 3, 4, 5, 6, 7, 8] rfl ?_
    exact hJ120 _ hR45 _ hR62 _ _ _ _ _ _ _ _ _ _ h
  have hL62 : ∀ (R45 : Mem → Int32 → Int32 → Int32 → Int32 → Int32 → Int32 → Prop) (hR45 : ∀ (M : Mem) (x1 : Int32) (x2 : Int32) (x3 : Int32) (x4 : Int32) (x5 : Int32) (x6 : Int32), R45 M x1 x2 x3 x4 x5 x6 → WX K X 10 (Qi X Q) M 45 [(0, .ref (ad X 85)), (1, .int x1), (2, .int x2), (3, .int x3), (4, .int x4), (5, .int x5), (6, .int x6)] []) (n : Nat) (M : Mem) (x1 : Int32) (x2 : Int32) (x3 : Int32) (x4 : Int32) (x5 : Int32) (x6 : Int32) (x7 : Int32), wL_X9_newDoor_62  Q R45 n M x1 x2 x3 x4 x5 x6 x7 → WX K X 10 (Qi X Q) M 62 [(0, .ref (ad X 85)), (1, .int x1), (2, .int x2), (3, .int x3), (4, .int x4), (5, .int x5), (6, .int x6), (7, .int x7)] [] := by
    intro R45 hR45 n
    induction n with
    | zero => intro M x1 x2 x3 x4 x5 x6 x7 h; exact absurd h id
    | succ n ih =>
      intro M x1 x2 x3 x4 x5 x6 x7 h
      replace h := wL_X9_newDoor_62_s h
      unfold wB_X9_newDoor_62 at h
      refine r_iload (pc := 62) C 7 dX9_newDoor_62 rfl ?_
      refine r_aload_n (pc := 64) C 0 dX9_newDoor_64 rfl ?_
      refine r_get (pc := 65) (k := 85) (j := 0) (Cn := RX9) (T := TX9) (N := 21) C (by decide) (ce85 _) rfl iaX9 (by decide) aw103 rfl rfl dX9_newDoor_65 ?_
      refine r_iconst (pc := 68) (v := 0) C dX9_newDoor_68 (by decide) ?_
      refine q_iald (pc := 69) (k := 86) (n := 3528) (j := 0) C (by decide) (ce86 _) (in_lit (by decide)) (by decide) dX9_newDoor_69 ?_
      refine r_icmp_ge (pc := 70) (tgt := 162) C dX9_newDoor_70 (by decide) (fun c1 => ?_) (fun c1 => ?_)
      · have h := h.1 c1
        obtain ⟨v2, ev2⟩ : ∃ z : Int32, z = x6 + 1 := ⟨_, rfl⟩
        replace h := h v2 ev2
        refine r_iinc (pc := 162) (v := v2) (lv2 := [(6, .int v2), (0, .ref (ad X 85)), (1, .int x1), (2, .int x2), (3, .int x3), (4, .int x4), (5, .int x5), (7, .int x7)]) C 6 dX9_newDoor_162 rfl (by rw [ev2]; rfl) (by decide) rfl ?_
        refine r_goto (pc := 165) (tgt := 45) C dX9_newDoor_165 (by decide) ?_
        refine r_sub (lv2 := [(0, .ref (ad X 85)), (1, .int x1), (2, .int x2), (3, .int x3), (4, .int x4), (5, .int x5), (6, .int v2)]) [1, 2, 3, 4, 5, 6, 0] rfl ?_
        exact hR45 _ _ _ _ _ _ _ h
      · have h := h.2 c1
        refine r_aload_n (pc := 73) C 0 dX9_newDoor_73 rfl ?_
        refine r_iload (pc := 74) C 6 dX9_newDoor_74 rfl ?_
        refine r_put (pc := 76) (k := 85) (j := 17) (Cn := RX9) (T := TX9) (N := 21) (host := "") C (by decide) (ce85 _) rfl iaX9 (by decide) (ce85 _) tyX9_ok nmX9 aw665 rfl rfl (tyX9_ok 17 (by decide)) (Nat.le_of_ble_eq_true rfl) dX9_newDoor_76 ?_
        refine r_topM (fun M3 eM3 => ?_)
        replace h := h M3 eM3
        refine r_aload_n (pc := 79) C 0 dX9_newDoor_79 rfl ?_
        refine r_iload (pc := 80) C 7 dX9_newDoor_80 rfl ?_
        refine r_put (pc := 82) (k := 85) (j := 18) (Cn := RX9) (T := TX9) (N := 21) (host := "") C (by decide) (ce85 _) rfl iaX9 (by decide) (ce85 _) tyX9_ok nmX9 aw666 rfl rfl (tyX9_ok 18 (by decide)) (Nat.le_of_ble_eq_true rfl) dX9_newDoor_82 ?_
        refine r_topM (fun M4 eM4 => ?_)
        replace h := h M4 eM4
        refine r_aload_n (pc := 85) C 0 dX9_newDoor_85 rfl ?_
        refine r_aload_n (pc := 86) C 0 dX9_newDoor_86 rfl ?_
        refine r_get (pc := 87) (k := 85) (j := 0) (Cn := RX9) (T := TX9) (N := 21) C (by decide) (ce85 _) rfl iaX9 (by decide) aw103 rfl rfl dX9_newDoor_87 ?_
        refine r_bipush (pc := 90) (v := 24) C dX9_newDoor_90 (by decide) ?_
        refine r_iload_n (pc := 92) C 1 dX9_newDoor_92 rfl ?_
        refine r_iadd (pc := 93) C dX9_newDoor_93 ?_
        refine r_topi (fun v5 ev5 => ?_)
        replace h := h v5 ev5
        obtain ⟨g6, h⟩ := h
        refine q_iald (pc := 94) (k := 86) (n := 3528) (j := (Int32.toNatClampNeg v5)) C (by decide) (ce86 _) g6 rfl dX9_newDoor_94 ?_
        refine r_iload_n (pc := 95) C 2 dX9_newDoor_95 rfl ?_
        have hM := c_X9_farFrom X  M4 (M4 86 (Int32.toNatClampNeg v5)) x2 _ h
        refine q_s0 (s1 := List.reverse [.int (M4 86 (Int32.toNatClampNeg v5)), .int x2] ++ .ref (ad X 85) :: []) rfl ?_
        refine r_callVi (pc := 96) (k := 85) (As := [.int (M4 86 (Int32.toNatClampNeg v5)), .int x2]) (st := []) C 2 (by decide) (ce85 _) rfl aw668 aw669 hM aw667 aw670 aw5 yd_X9_farFrom ⟨rfl, rfl⟩ ⟨Nat.le_of_ble_eq_true rfl, Nat.le_of_ble_eq_true rfl⟩ rfl (Nat.le_of_ble_eq_true rfl) dX9_newDoor_96 (fun r8 M7 h => ?_)
        refine r_istore (pc := 99) (lv2 := [(8, .int r8), (0, .ref (ad X 85)), (1, .int x1), (2, .int x2), (3, .int x3), (4, .int x4), (5, .int x5), (6, .int x6), (7, .int x7)]) C dX9_newDoor_99 (by decide) rfl ?_
        refine r_iload (pc := 101) C 0 dX9_newDoor_101 rfl ?_
        refine r_ldc (pc := 103) C aw330 dX9_newDoor_103 ?_
        refine r_icmp_eq (pc := 105) (tgt := 119) C dX9_newDoor_105 (by decide) (fun c9 => ?_) (fun c9 => ?_)
        · have h := h.1 c9
          refine r_sub (lv2 := [(0, .ref (ad X 85)), (1, .int x1), (2, .int x2), (3, .int x3), (4, .int x4), (5, .int x5), (6, .int x6), (7, .int x7), (8, .int r8)]) [1, 2, 3, 4, 5, 6, 7, 8, 0] rfl ?_
          exact hJ119 _ hR45 _ ih _ _ _ _ _ _ _ _ _ h
        · have h := h.2 c9
          refine r_iload (pc := 108) C 0 dX9_newDoor_108 rfl ?_
          refine r_iload (pc := 110) C 6 dX9_newDoor_110 rfl ?_
          refine r_icmp_ge (pc := 112) (tgt := 119) C dX9_newDoor_112 (by decide) (fun c10 => ?_) (fun c10 => ?_)
          · have h := h.1 c10
            refine r_sub (lv2 := [(0, .ref (ad X 85)), (1, .int x1), (2, .int x2), (3, .int x3), (4, .int x4), (5, .int x5), (6, .int x6), (7, .int x7), (8, .int r8)]) [1, 2, 3, 4, 5, 6, 7, 8, 0] rfl ?_
            exact hJ119 _ hR45 _ ih _ _ _ _ _ _ _ _ _ h
          · have h := h.2 c10
            refine r_iconst (pc := 115) (v := 1) C dX9_newDoor_115 (by decide) ?_
            refine r_goto (pc := 116) (tgt := 120) C dX9_newDoor_116 (by decide) ?_
            refine r_sub (lv2 := [(0, .ref (ad X 85)), (1, .int x1), (2, .int x2), (3, .int x3), (4, .int x4), (5, .int x5), (6, .int x6), (7, .int x7), (8, .int r8)]) [1, 2, 3, 4, 5, 6, 7, 8, 0] rfl ?_
            exact hJ120 _ hR45 _ ih _ _ _ _ _ _ _ _ _ _ h
  have hL45 : ∀  (n : Nat) (M : Mem) (x1 : Int32) (x2 : Int32) (x3 : Int32) (x4 : Int32) (x5 : Int32) (x6 : Int32), wL_X9_newDoor_45  Q  n M x1 x2 x3 x4 x5 x6 → WX K X 10 (Qi X Q) M 45 [(0, .ref (ad X 85)), (1, .int x1), (2, .int x2), (3, .int x3), (4, .int x4), (5, .int x5), (6, .int x6)] [] := by
    intro  n
    induction n with
    | zero => intro M x1 x2 x3 x4 x5 x6 h; exact absurd h id
    | succ n ih =>
      intro M x1 x2 x3 x4 x5 x6 h
      replace h := wL_X9_newDoor_45_s h
      unfold wB_X9_newDoor_45 at h
      refine r_iload (pc := 45) C 6 dX9_newDoor_45 rfl ?_
      refine r_aload_n (pc := 47) C 0 dX9_newDoor_47 rfl ?_
      refine r_get (pc := 48) (k := 85) (j := 0) (Cn := RX9) (T := TX9) (N := 21) C (by decide) (ce85 _) rfl iaX9 (by decide) aw103 rfl rfl dX9_newDoor_48 ?_
      refine r_iconst (pc := 51) (v := 0) C dX9_newDoor_51 (by decide) ?_
      refine q_iald (pc := 52) (k := 86) (n := 3528) (j := 0) C (by decide) (ce86 _) (in_lit (by decide)) (by decide) dX9_newDoor_52 ?_
      refine r_icmp_ge (pc := 53) (tgt := 168) C dX9_newDoor_53 (by decide) (fun c1 => ?_) (fun c1 => ?_)
      · have h := h.1 c1
        refine r_iload (pc := 168) C 4 dX9_newDoor_168 rfl ?_
        refine r_ldc (pc := 170) C aw330 dX9_newDoor_170 ?_
        refine r_icmp_eq (pc := 172) (tgt := 179) C dX9_newDoor_172 (by decide) (fun c2 => ?_) (fun c2 => ?_)
        · have h := h.1 c2
          refine r_iload (pc := 179) C 4 dX9_newDoor_179 rfl ?_
          refine r_goto (pc := 181) (tgt := 186) C dX9_newDoor_181 (by decide) ?_
          exact r_iret (pc := 186) C dX9_newDoor_186 h
        · have h := h.2 c2
          refine r_iload_n (pc := 175) C 3 dX9_newDoor_175 rfl ?_
          refine r_if_ne (pc := 176) (tgt := 184) C dX9_newDoor_176 (by decide) (fun c3 => ?_) (fun c3 => ?_)
          · have h := h.1 c3
            refine r_iload (pc := 184) C 5 dX9_newDoor_184 rfl ?_
            exact r_iret (pc := 186) C dX9_newDoor_186 h
          · have h := h.2 c3
            refine r_iload (pc := 179) C 4 dX9_newDoor_179 rfl ?_
            refine r_goto (pc := 181) (tgt := 186) C dX9_newDoor_181 (by decide) ?_
            exact r_iret (pc := 186) C dX9_newDoor_186 h
      · have h := h.2 c1
        refine r_iload (pc := 56) C 6 dX9_newDoor_56 rfl ?_
        refine r_iconst (pc := 58) (v := 1) C dX9_newDoor_58 (by decide) ?_
        refine r_iadd (pc := 59) C dX9_newDoor_59 ?_
        refine r_topi (fun v4 ev4 => ?_)
        replace h := h v4 ev4
        refine r_istore (pc := 60) (lv2 := [(7, .int v4), (0, .ref (ad X 85)), (1, .int x1), (2, .int x2), (3, .int x3), (4, .int x4), (5, .int x5), (6, .int x6)]) C dX9_newDoor_60 (by decide) rfl ?_
        obtain ⟨n5, h⟩ := h
        refine r_sub (lv2 := [(0, .ref (ad X 85)), (1, .int x1), (2, .int x2), (3, .int x3), (4, .int x4), (5, .int x5), (6, .int x6), (7, .int v4)]) [1, 2, 3, 4, 5, 6, 7, 0] rfl ?_
        exact hL62 _ ih _ _ _ _ _ _ _ _ _ h
  unfold w_X9_newDoor at h
  refine r_aload_n (pc := 0) C 0 dX9_newDoor_0 rfl ?_
  refine r_iload_n (pc := 1) C 1 dX9_newDoor_1 rfl ?_
  have hM := c_X9_isPerson X  M x1 _ h
  refine q_s0 (s1 := List.reverse [.int x1] ++ .ref (ad X 85) :: []) rfl ?_
  refine r_callVi (pc := 2) (k := 85) (As := [.int x1]) (st := []) C 1 (by decide) (ce85 _) rfl aw484 aw485 hM aw483 aw486 aw5 yd_X9_isPerson ⟨rfl, rfl⟩ ⟨Nat.le_of_ble_eq_true rfl, Nat.le_of_ble_eq_true rfl⟩ rfl (Nat.le_of_ble_eq_true rfl) dX9_newDoor_2 (fun r2 M1 h => ?_)
  refine r_if_eq (pc := 5) (tgt := 26) C dX9_newDoor_5 (by decide) (fun c3 => ?_) (fun c3 => ?_)
  · have h := h.1 c3
    refine r_ldc (pc := 26) C aw142 dX9_newDoor_26 ?_
    exact r_iret (pc := 28) C dX9_newDoor_28 h
  · have h := h.2 c3
    refine r_aload_n (pc := 8) C 0 dX9_newDoor_8 rfl ?_
    refine r_iload_n (pc := 9) C 2 dX9_newDoor_9 rfl ?_
    have hM := c_X9_isRoom X  M1 x2 _ h
    refine q_s0 (s1 := List.reverse [.int x2] ++ .ref (ad X 85) :: []) rfl ?_
    refine r_callVi (pc := 10) (k := 85) (As := [.int x2]) (st := []) C 1 (by decide) (ce85 _) rfl aw576 aw577 hM aw575 aw578 aw5 yd_X9_isRoom ⟨rfl, rfl⟩ ⟨Nat.le_of_ble_eq_true rfl, Nat.le_of_ble_eq_true rfl⟩ rfl (Nat.le_of_ble_eq_true rfl) dX9_newDoor_10 (fun r5 M4 h => ?_)
    refine r_if_eq (pc := 13) (tgt := 26) C dX9_newDoor_13 (by decide) (fun c6 => ?_) (fun c6 => ?_)
    · have h := h.1 c6
      refine r_ldc (pc := 26) C aw142 dX9_newDoor_26 ?_
      exact r_iret (pc := 28) C dX9_newDoor_28 h
    · have h := h.2 c6
      refine r_iload_n (pc := 16) C 3 dX9_newDoor_16 rfl ?_
      refine r_i2l (pc := 17) C dX9_newDoor_17 ?_
      refine r_lconst (pc := 18) (v := 0) C dX9_newDoor_18 (by decide) ?_
      refine r_lconst (pc := 19) (v := 1) C dX9_newDoor_19 (by decide) ?_
      have hM := c_X9_in X  M4 (Int32.toInt64 x3) 0 1 _ h
      refine q_s0 (s1 := List.reverse [.long (Int32.toInt64 x3), .long 0, .long 1] ++ []) rfl ?_
      refine r_callSi (pc := 20) (As := [.long (Int32.toInt64 x3), .long 0, .long 1]) (st := []) C 3 hM aw147 aw148 aw149 aw5 yd_X9_in ⟨rfl, rfl⟩ ⟨Nat.le_of_ble_eq_true rfl, Nat.le_of_ble_eq_true rfl⟩ rfl (Nat.le_of_ble_eq_true rfl) dX9_newDoor_20 (fun r8 M7 h => ?_)
      refine r_if_ne (pc := 23) (tgt := 29) C dX9_newDoor_23 (by decide) (fun c9 => ?_) (fun c9 => ?_)
      · have h := h.1 c9
        refine r_aload_n (pc := 29) C 0 dX9_newDoor_29 rfl ?_
        refine r_iload_n (pc := 30) C 1 dX9_newDoor_30 rfl ?_
        have hM := c_X9_layOpen X  M7 x1 _ h
        refine q_s0 (s1 := List.reverse [.int x1] ++ .ref (ad X 85) :: []) rfl ?_
        refine r_callVv (pc := 31) (k := 85) (As := [.int x1]) (st := []) C 1 (by decide) (ce85 _) rfl aw662 aw663 hM aw661 aw664 aw5 yd_X9_layOpen ⟨rfl, rfl⟩ ⟨Nat.le_of_ble_eq_true rfl, Nat.le_of_ble_eq_true rfl⟩ rfl (Nat.le_of_ble_eq_true rfl) dX9_newDoor_31 (fun M10 h => ?_)
        refine r_ldc (pc := 34) C aw330 dX9_newDoor_34 ?_
        refine r_istore (pc := 36) (lv2 := [(4, .int (-1000000)), (0, .ref (ad X 85)), (1, .int x1), (2, .int x2), (3, .int x3)]) C dX9_newDoor_36 (by decide) rfl ?_
        refine r_bipush (pc := 38) (v := 99) C dX9_newDoor_38 (by decide) ?_
        refine r_istore (pc := 40) (lv2 := [(5, .int 99), (4, .int (-1000000)), (0, .ref (ad X 85)), (1, .int x1), (2, .int x2), (3, .int x3)]) C dX9_newDoor_40 (by decide) rfl ?_
        refine r_iconst (pc := 42) (v := 0) C dX9_newDoor_42 (by decide) ?_
        refine r_istore (pc := 43) (lv2 := [(6, .int 0), (5, .int 99), (4, .int (-1000000)), (0, .ref (ad X 85)), (1, .int x1), (2, .int x2), (3, .int x3)]) C dX9_newDoor_43 (by decide) rfl ?_
        obtain ⟨n12, h⟩ := h
        refine r_sub (lv2 := [(0, .ref (ad X 85)), (1, .int x1), (2, .int x2), (3, .int x3), (4, .int (-1000000)), (5, .int 99), (6, .int 0)]) [3, 4, 5, 6, 2, 1, 0] rfl ?_
        exact hL45  _ _ _ _ _ _ _ _ h
      · have h := h.2 c9
        refine r_ldc (pc := 26) C aw142 dX9_newDoor_26 ?_
        exact r_iret (pc := 28) C dX9_newDoor_28 h
theorem yd_X9_isSo : yX9_isSo.cls ≠ "java/lang/invoke/MethodHandle" ∧ yX9_isSo.cls ≠ "java/lang/invoke/VarHandle" ∧ (parseMethodDescriptor yX9_isSo.desc).map (fun d => d.parameters.length) = some 4 := by decide +kernel
def wJ_X9_isSo_72  (Q : Int32 → Mem → Prop) (R6 : Mem → Int32 → Int32 → Int32 → Int32 → Int32 → Int32 → Prop) (M : Mem) (x1 : Int32) (x2 : Int32) (x3 : Int32) (x4 : Int32) (x6 : Int32) (s0 : Int32) (s1 : Int32) : Prop :=
  ((¬ s0 = s1) → (∀ v2 : Int32, v2 = x6 + 1 → (R6 M x1 x2 x3 x4 0 v2))) ∧ ((s0 = s1) → (∀ v3 : Int32, v3 = x6 + 1 → (R6 M x1 x2 x3 x4 1 v3)))
def wJ_X9_isSo_51  (Q : Int32 → Mem → Prop) (R6 : Mem → Int32 → Int32 → Int32 → Int32 → Int32 → Int32 → Prop) (M : Mem) (x1 : Int32) (x2 : Int32) (x3 : Int32) (x4 : Int32) (x6 : Int32) (x7 : Int32) : Prop :=
  w_X9_opens  M 3402 x1 x6 (fun r2 M1 => ((¬ x7 = 1) → (wJ_X9_isSo_72  Q R6 M1 x1 x2 x3 x4 x6 r2 0)) ∧ ((x7 = 1) → (wJ_X9_isSo_72  Q R6 M1 x1 x2 x3 x4 x6 r2 1)))
def wB_X9_isSo_6  (Q : Int32 → Mem → Prop)  (R6 : Mem → Int32 → Int32 → Int32 → Int32 → Int32 → Int32 → Prop) (M : Mem) (x1 : Int32) (x2 : Int32) (x3 : Int32) (x4 : Int32) (x5 : Int32) (x6 : Int32) : Prop :=
  ((x4 ≤ x6) → (vz x5 ∧ Q x5 M)) ∧ ((¬ x4 ≤ x6) → (((x5 = 0) → (vz x5 ∧ Q x5 M)) ∧ ((¬ x5 = 0) → (∀ v3 : Int32, v3 = (((40 * x2) + x3) + x6) → (vp_in v3 320 ∧ (∀ v5 : Int32, v5 = (M 90 (Int32.toNatClampNeg v3)) → (((v5 = (-1)) → (∀ v7 : Int32, v7 = x6 + 1 → (R6 M x1 x2 x3 x4 1 v7))) ∧ ((¬ v5 = (-1)) → (((v5 = 0) → (wJ_X9_isSo_51  Q R6 M x1 x2 x3 x4 x6 v5)) ∧ ((¬ v5 = 0) → (((¬ v5 = 1) → (∀ v10 : Int32, v10 = x6 + 1 → (R6 M x1 x2 x3 x4 0 v10))) ∧ ((v5 = 1) → (wJ_X9_isSo_51  Q R6 M x1 x2 x3 x4 x6 v5)))))))))))))
def wL_X9_isSo_6  (Q : Int32 → Mem → Prop)  : Nat → Mem → Int32 → Int32 → Int32 → Int32 → Int32 → Int32 → Prop
  | 0 => fun _ _ _ _ _ _ _ => False
  | n + 1 => fun M x1 x2 x3 x4 x5 x6 => wB_X9_isSo_6  Q  (wL_X9_isSo_6  Q  n) M x1 x2 x3 x4 x5 x6
theorem wL_X9_isSo_6_s  {Q : Int32 → Mem → Prop}  {n : Nat} {M : Mem} {x1 : Int32} {x2 : Int32} {x3 : Int32} {x4 : Int32} {x5 : Int32} {x6 : Int32} (h : wL_X9_isSo_6  Q  (n + 1) M x1 x2 x3 x4 x5 x6) : wB_X9_isSo_6  Q  (wL_X9_isSo_6  Q  n) M x1 x2 x3 x4 x5 x6 := h
def w_X9_isSo  (M : Mem) (x1 : Int32) (x2 : Int32) (x3 : Int32) (x4 : Int32) (Q : Int32 → Mem → Prop) : Prop :=
  ∃ n1 : Nat, wL_X9_isSo_6  Q  n1 M x1 x2 x3 x4 1 0
abbrev rm_X9_isSo : Room := { frames := 18, cells := 0, slots := 0, locals := 360 }
set_option maxHeartbeats 4000000 in
set_option maxRecDepth 100000 in
theorem c_X9_isSo (X : Cx)  (M : Mem) (x1 : Int32) (x2 : Int32) (x3 : Int32) (x4 : Int32) (Q : Int32 → Mem → Prop) (h : w_X9_isSo  M x1 x2 x3 x4 Q) : Ct yX9_isSo cX9_isSo 8 (some .boolean) rm_X9_isSo X M [.ref (ad X 85), .int x1, .int x2, .int x3, .int x4] (Qi X Q) := by
  refine ct_of (own := RX9) (lv := [(0, .ref (ad X 85)), (1, .int x1), (2, .int x2), (3, .int x3), (4, .int x4)]) rfl (by decide) (Nat.le_of_ble_eq_true rfl) rfl ?_
  intro K C
  have hJ72 : ∀ (R6 : Mem → Int32 → Int32 → Int32 → Int32 → Int32 → Int32 → Prop) (hR6 : ∀ (M : Mem) (x1 : Int32) (x2 : Int32) (x3 : Int32) (x4 : Int32) (x5 : Int32) (x6 : Int32), R6 M x1 x2 x3 x4 x5 x6 → WX K X 8 (Qi X Q) M 6 [(0, .ref (ad X 85)), (1, .int x1), (2, .int x2), (3, .int x3), (4, .int x4), (5, .int x5), (6, .int x6)] []) (M : Mem) (x1 : Int32) (x2 : Int32) (x3 : Int32) (x4 : Int32) (x6 : Int32) (s0 : Int32) (s1 : Int32), wJ_X9_isSo_72  Q R6 M x1 x2 x3 x4 x6 s0 s1 → WX K X 8 (Qi X Q) M 72 [(0, .ref (ad X 85)), (1, .int x1), (2, .int x2), (3, .int x3), (4, .int x4), (6, .int x6)] [.int s1, .int s0] := by
    intro R6 hR6 M x1 x2 x3 x4 x6 s0 s1 h
    unfold wJ_X9_isSo_72 at h
    refine r_icmp_ne (pc := 72) (tgt := 79) C dX9_isSo_72 (by decide) (fun c1 => ?_) (fun c1 => ?_)
    · have h := h.1 c1
      refine r_iconst (pc := 79) (v := 0) C dX9_isSo_79 (by decide) ?_
      refine r_istore (pc := 80) (lv2 := [(5, .int 0), (0, .ref (ad X 85)), (1, .int x1), (2, .int x2), (3, .int x3), (4, .int x4), (6, .int x6)]) C dX9_isSo_80 (by decide) rfl ?_
      obtain ⟨v2, ev2⟩ : ∃ z : Int32, z = x6 + 1 := ⟨_, rfl⟩
      replace h := h v2 ev2
      refine r_iinc (pc := 82) (v := v2) (lv2 := [(6, .int v2), (5, .int 0), (0, .ref (ad X 85)), (1, .int x1), (2, .int x2), (3, .int x3), (4, .int x4)]) C 6 dX9_isSo_82 rfl (by rw [ev2]; rfl) (by decide) rfl ?_
      refine r_goto (pc := 85) (tgt := 6) C dX9_isSo_85 (by decide) ?_
      refine r_sub (lv2 := [(0, .ref (ad X 85)), (1, .int x1), (2, .int x2), (3, .int x3), (4, .int x4), (5, .int 0), (6, .int v2)]) [2, 3, 4, 5, 6, 1, 0] rfl ?_
      exact hR6 _ _ _ _ _ _ _ h
    · have h := h.2 c1
      refine r_iconst (pc := 75) (v := 1) C dX9_isSo_75 (by decide) ?_
      refine r_goto (pc := 76) (tgt := 80) C dX9_isSo_76 (by decide) ?_
      refine r_istore (pc := 80) (lv2 := [(5, .int 1), (0, .ref (ad X 85)), (1, .int x1), (2, .int x2), (3, .int x3), (4, .int x4), (6, .int x6)]) C dX9_isSo_80 (by decide) rfl ?_
      obtain ⟨v3, ev3⟩ : ∃ z : Int32, z = x6 + 1 := ⟨_, rfl⟩
      replace h := h v3 ev3
      refine r_iinc (pc := 82) (v := v3) (lv2 := [(6, .int v3), (5, .int 1), (0, .ref (ad X 85)), (1, .int x1), (2, .int x2), (3, .int x3), (4, .int x4)]) C 6 dX9_isSo_82 rfl (by rw [ev3]; rfl) (by decide) rfl ?_
      refine r_goto (pc := 85) (tgt := 6) C dX9_isSo_85 (by decide) ?_
      refine r_sub (lv2 := [(0, .ref (ad X 85)), (1, .int x1), (2, .int x2), (3, .int x3), (4, .int x4), (5, .int 1), (6, .int v3)]) [2, 3, 4, 5, 6, 1, 0] rfl ?_
      exact hR6 _ _ _ _ _ _ _ h
  have hJ51 : ∀ (R6 : Mem → Int32 → Int32 → Int32 → Int32 → Int32 → Int32 → Prop) (hR6 : ∀ (M : Mem) (x1 : Int32) (x2 : Int32) (x3 : Int32) (x4 : Int32) (x5 : Int32) (x6 : Int32), R6 M x1 x2 x3 x4 x5 x6 → WX K X 8 (Qi X Q) M 6 [(0, .ref (ad X 85)), (1, .int x1), (2, .int x2), (3, .int x3), (4, .int x4), (5, .int x5), (6, .int x6)] []) (M : Mem) (x1 : Int32) (x2 : Int32) (x3 : Int32) (x4 : Int32) (x6 : Int32) (x7 : Int32), wJ_X9_isSo_51  Q R6 M x1 x2 x3 x4 x6 x7 → WX K X 8 (Qi X Q) M 51 [(0, .ref (ad X 85)), (1, .int x1), (2, .int x2), (3, .int x3), (4, .int x4), (6, .int x6), (7, .int x7)] [] := by
    intro R6 hR6 M x1 x2 x3 x4 x6 x7 h
    unfold wJ_X9_isSo_51 at h
    refine r_aload_n (pc := 51) C 0 dX9_isSo_51 rfl ?_
    refine r_sipush (pc := 52) (v := 3402) C dX9_isSo_52 (by decide) ?_
    refine r_iload_n (pc := 55) C 1 dX9_isSo_55 rfl ?_
    refine r_iload (pc := 56) C 5 dX9_isSo_56 rfl ?_
    have hM := c_X9_opens X  M 3402 x1 x6 _ h
    refine q_s0 (s1 := List.reverse [.int 3402, .int x1, .int x6] ++ .ref (ad X 85) :: []) rfl ?_
    refine r_callVi (pc := 58) (k := 85) (As := [.int 3402, .int x1, .int x6]) (st := []) C 3 (by decide) (ce85 _) rfl aw508 aw509 hM aw507 aw510 aw5 yd_X9_opens ⟨rfl, rfl⟩ ⟨Nat.le_of_ble_eq_true rfl, Nat.le_of_ble_eq_true rfl⟩ rfl (Nat.le_of_ble_eq_true rfl) dX9_isSo_58 (fun r2 M1 h => ?_)
    refine r_iload (pc := 61) C 6 dX9_isSo_61 rfl ?_
    refine r_iconst (pc := 63) (v := 1) C dX9_isSo_63 (by decide) ?_
    refine r_icmp_ne (pc := 64) (tgt := 71) C dX9_isSo_64 (by decide) (fun c3 => ?_) (fun c3 => ?_)
    · have h := h.1 c3
      refine r_iconst (pc := 71) (v := 0) C dX9_isSo_71 (by decide) ?_
      refine r_sub (lv2 := [(0, .ref (ad X 85)), (1, .int x1), (2, .int x2), (3, .int x3), (4, .int x4), (6, .int x6)]) [0, 1, 2, 3, 4, 5] rfl ?_
      exact hJ72 _ hR6 _ _ _ _ _ _ _ _ h
    · have h := h.2 c3
      refine r_iconst (pc := 67) (v := 1) C dX9_isSo_67 (by decide) ?_
      refine r_goto (pc := 68) (tgt := 72) C dX9_isSo_68 (by decide) ?_
      refine r_sub (lv2 := [(0, .ref (ad X 85)), (1, .int x1), (2, .int x2), (3, .int x3), (4, .int x4), (6, .int x6)]) [0, 1, 2, 3, 4, 5] rfl ?_
      exact hJ72 _ hR6 _ _ _ _ _ _ _ _ h
  have hL6 : ∀  (n : Nat) (M : Mem) (x1 : Int32) (x2 : Int32) (x3 : Int32) (x4 : Int32) (x5 : Int32) (x6 : Int32), wL_X9_isSo_6  Q  n M x1 x2 x3 x4 x5 x6 → WX K X 8 (Qi X Q) M 6 [(0, .ref (ad X 85)), (1, .int x1), (2, .int x2), (3, .int x3), (4, .int x4), (5, .int x5), (6, .int x6)] [] := by
    intro  n
    induction n with
    | zero => intro M x1 x2 x3 x4 x5 x6 h; exact absurd h id
    | succ n ih =>
      intro M x1 x2 x3 x4 x5 x6 h
      replace h := wL_X9_isSo_6_s h
      unfold wB_X9_isSo_6 at h
      refine r_iload (pc := 6) C 6 dX9_isSo_6 rfl ?_
      refine r_iload (pc := 8) C 4 dX9_isSo_8 rfl ?_
      refine r_icmp_ge (pc := 10) (tgt := 88) C dX9_isSo_10 (by decide) (fun c1 => ?_) (fun c1 => ?_)
      · have h := h.1 c1
        refine r_iload (pc := 88) C 5 dX9_isSo_88 rfl ?_
        exact r_zret (pc := 90) C dX9_isSo_90 h.1 h.2
      · have h := h.2 c1
        refine r_iload (pc := 13) C 5 dX9_isSo_13 rfl ?_
        refine r_if_eq (pc := 15) (tgt := 88) C dX9_isSo_15 (by decide) (fun c2 => ?_) (fun c2 => ?_)
        · have h := h.1 c2
          refine r_iload (pc := 88) C 5 dX9_isSo_88 rfl ?_
          exact r_zret (pc := 90) C dX9_isSo_90 h.1 h.2
        · have h := h.2 c2
          refine r_aload_n (pc := 18) C 0 dX9_isSo_18 rfl ?_
          refine r_get (pc := 19) (k := 85) (j := 5) (Cn := RX9) (T := TX9) (N := 21) C (by decide) (ce85 _) rfl iaX9 (by decide) aw108 rfl rfl dX9_isSo_19 ?_
          refine r_bipush (pc := 22) (v := 40) C dX9_isSo_22 (by decide) ?_
          refine r_iload_n (pc := 24) C 2 dX9_isSo_24 rfl ?_
          refine r_imul (pc := 25) C dX9_isSo_25 ?_
          refine r_iload_n (pc := 26) C 3 dX9_isSo_26 rfl ?_
          refine r_iadd (pc := 27) C dX9_isSo_27 ?_
          refine r_iload (pc := 28) C 6 dX9_isSo_28 rfl ?_
          refine r_iadd (pc := 30) C dX9_isSo_30 ?_
          refine r_topi (fun v3 ev3 => ?_)
          replace h := h v3 ev3
          obtain ⟨g4, h⟩ := h
          refine q_iald (pc := 31) (k := 90) (n := 320) (j := (Int32.toNatClampNeg v3)) C (by decide) (ce90 _) g4 rfl dX9_isSo_31 ?_
          refine r_topi (fun v5 ev5 => ?_)
          replace h := h v5 ev5
          refine r_istore (pc := 32) (lv2 := [(7, .int v5), (0, .ref (ad X 85)), (1, .int x1), (2, .int x2), (3, .int x3), (4, .int x4), (5, .int x5), (6, .int x6)]) C dX9_isSo_32 (by decide) rfl ?_
          refine r_iload (pc := 34) C 0 dX9_isSo_34 rfl ?_
          refine r_iconst (pc := 36) (v := (-1)) C dX9_isSo_36 (by decide) ?_
          refine r_icmp_eq (pc := 37) (tgt := 75) C dX9_isSo_37 (by decide) (fun c6 => ?_) (fun c6 => ?_)
          · have h := h.1 c6
            refine r_iconst (pc := 75) (v := 1) C dX9_isSo_75 (by decide) ?_
            refine r_goto (pc := 76) (tgt := 80) C dX9_isSo_76 (by decide) ?_
            refine r_istore (pc := 80) (lv2 := [(5, .int 1), (7, .int v5), (0, .ref (ad X 85)), (1, .int x1), (2, .int x2), (3, .int x3), (4, .int x4), (6, .int x6)]) C dX9_isSo_80 (by decide) rfl ?_
            obtain ⟨v7, ev7⟩ : ∃ z : Int32, z = x6 + 1 := ⟨_, rfl⟩
            replace h := h v7 ev7
            refine r_iinc (pc := 82) (v := v7) (lv2 := [(6, .int v7), (5, .int 1), (7, .int v5), (0, .ref (ad X 85)), (1, .int x1), (2, .int x2), (3, .int x3), (4, .int x4)]) C 7 dX9_isSo_82 rfl (by rw [ev7]; rfl) (by decide) rfl ?_
            refine r_goto (pc := 85) (tgt := 6) C dX9_isSo_85 (by decide) ?_
            refine r_sub (lv2 := [(0, .ref (ad X 85)), (1, .int x1), (2, .int x2), (3, .int x3), (4, .int x4), (5, .int 1), (6, .int v7)]) [3, 4, 5, 6, 7, 1, 0] rfl ?_
            exact ih _ _ _ _ _ _ _ h
          · have h := h.2 c6
            refine r_iload (pc := 40) C 0 dX9_isSo_40 rfl ?_
            refine r_if_eq (pc := 42) (tgt := 51) C dX9_isSo_42 (by decide) (fun c8 => ?_) (fun c8 => ?_)
            · have h := h.1 c8
              refine r_sub (lv2 := [(0, .ref (ad X 85)), (1, .int x1), (2, .int x2), (3, .int x3), (4, .int x4), (6, .int x6), (7, .int v5)]) [1, 2, 3, 4, 5, 7, 0] rfl ?_
              exact hJ51 _ ih _ _ _ _ _ _ _ h
            · have h := h.2 c8
              refine r_iload (pc := 45) C 0 dX9_isSo_45 rfl ?_
              refine r_iconst (pc := 47) (v := 1) C dX9_isSo_47 (by decide) ?_
              refine r_icmp_ne (pc := 48) (tgt := 79) C dX9_isSo_48 (by decide) (fun c9 => ?_) (fun c9 => ?_)
              · have h := h.1 c9
                refine r_iconst (pc := 79) (v := 0) C dX9_isSo_79 (by decide) ?_
                refine r_istore (pc := 80) (lv2 := [(5, .int 0), (7, .int v5), (0, .ref (ad X 85)), (1, .int x1), (2, .int x2), (3, .int x3), (4, .int x4), (6, .int x6)]) C dX9_isSo_80 (by decide) rfl ?_
                obtain ⟨v10, ev10⟩ : ∃ z : Int32, z = x6 + 1 := ⟨_, rfl⟩
                replace h := h v10 ev10
                refine r_iinc (pc := 82) (v := v10) (lv2 := [(6, .int v10), (5, .int 0), (7, .int v5), (0, .ref (ad X 85)), (1, .int x1), (2, .int x2), (3, .int x3), (4, .int x4)]) C 7 dX9_isSo_82 rfl (by rw [ev10]; rfl) (by decide) rfl ?_
                refine r_goto (pc := 85) (tgt := 6) C dX9_isSo_85 (by decide) ?_
                refine r_sub (lv2 := [(0, .ref (ad X 85)), (1, .int x1), (2, .int x2), (3, .int x3), (4, .int x4), (5, .int 0), (6, .int v10)]) [3, 4, 5, 6, 7, 1, 0] rfl ?_
                exact ih _ _ _ _ _ _ _ h
              · have h := h.2 c9
                refine r_sub (lv2 := [(0, .ref (ad X 85)), (1, .int x1), (2, .int x2), (3, .int x3), (4, .int x4), (6, .int x6), (7, .int v5)]) [1, 2, 3, 4, 5, 7, 0] rfl ?_
                exact hJ51 _ ih _ _ _ _ _ _ _ h
  unfold w_X9_isSo at h
  refine r_iconst (pc := 0) (v := 1) C dX9_isSo_0 (by decide) ?_
  refine r_istore (pc := 1) (lv2 := [(5, .int 1), (0, .ref (ad X 85)), (1, .int x1), (2, .int x2), (3, .int x3), (4, .int x4)]) C dX9_isSo_1 (by decide) rfl ?_
  refine r_iconst (pc := 3) (v := 0) C dX9_isSo_3 (by decide) ?_
  refine r_istore (pc := 4) (lv2 := [(6, .int 0), (5, .int 1), (0, .ref (ad X 85)), (1, .int x1), (2, .int x2), (3, .int x3), (4, .int x4)]) C dX9_isSo_4 (by decide) rfl ?_
  obtain ⟨n1, h⟩ := h
  refine r_sub (lv2 := [(0, .ref (ad X 85)), (1, .int x1), (2, .int x2), (3, .int x3), (4, .int x4), (5, .int 1), (6, .int 0)]) [2, 3, 4, 5, 6, 1, 0] rfl ?_
  exact hL6  _ _ _ _ _ _ _ _ h
theorem yd_X9_isAsked : yX9_isAsked.cls ≠ "java/lang/invoke/MethodHandle" ∧ yX9_isAsked.cls ≠ "java/lang/invoke/VarHandle" ∧ (parseMethodDescriptor yX9_isAsked.desc).map (fun d => d.parameters.length) = some 4 := by decide +kernel
def w_X9_isAsked  (M : Mem) (x1 : Int32) (x2 : Int32) (x3 : Int32) (x4 : Int32) (Q : Int32 → Mem → Prop) : Prop :=
  w_X9_isPerson  M x1 (fun r2 M1 => ((r2 = 0) → (Q 0 M1)) ∧ ((¬ r2 = 0) → (w_X9_isPerson  M1 x2 (fun r5 M4 => ((r5 = 0) → (Q 0 M4)) ∧ ((¬ r5 = 0) → (((x1 = x2) → (Q 0 M4)) ∧ ((¬ x1 = x2) → (w_X9_isRow  M4 x3 (fun r9 M8 => ((r9 = 0) → (Q 0 M8)) ∧ ((¬ r9 = 0) → (w_X9_in  M8 (Int32.toInt64 x4) 1 (Int32.toInt64 (M8 86 2)) (fun r12 M11 => ((r12 = 0) → (Q 0 M11)) ∧ ((¬ r12 = 0) → (Q 1 M11))))))))))))))
abbrev rm_X9_isAsked : Room := { frames := 9, cells := 0, slots := 0, locals := 180 }
set_option maxHeartbeats 4000000 in
set_option maxRecDepth 100000 in
theorem c_X9_isAsked (X : Cx)  (M : Mem) (x1 : Int32) (x2 : Int32) (x3 : Int32) (x4 : Int32) (Q : Int32 → Mem → Prop) (h : w_X9_isAsked  M x1 x2 x3 x4 Q) : Ct yX9_isAsked cX9_isAsked 5 (some .boolean) rm_X9_isAsked X M [.ref (ad X 85), .int x1, .int x2, .int x3, .int x4] (Qi X Q) := by
  refine ct_of (own := RX9) (lv := [(0, .ref (ad X 85)), (1, .int x1), (2, .int x2), (3, .int x3), (4, .int x4)]) rfl (by decide) (Nat.le_of_ble_eq_true rfl) rfl ?_
  intro K C
  unfold w_X9_isAsked at h
  refine r_aload_n (pc := 0) C 0 dX9_isAsked_0 rfl ?_
  refine r_iload_n (pc := 1) C 1 dX9_isAsked_1 rfl ?_
  have hM := c_X9_isPerson X  M x1 _ h
  refine q_s0 (s1 := List.reverse [.int x1] ++ .ref (ad X 85) :: []) rfl ?_
  refine r_callVi (pc := 2) (k := 85) (As := [.int x1]) (st := []) C 1 (by decide) (ce85 _) rfl aw484 aw485 hM aw483 aw486 aw5 yd_X9_isPerson ⟨rfl, rfl⟩ ⟨Nat.le_of_ble_eq_true rfl, Nat.le_of_ble_eq_true rfl⟩ rfl (Nat.le_of_ble_eq_true rfl) dX9_isAsked_2 (fun r2 M1 h => ?_)
  refine r_if_eq (pc := 5) (tgt := 49) C dX9_isAsked_5 (by decide) (fun c3 => ?_) (fun c3 => ?_)
  · have h := h.1 c3
    refine r_iconst (pc := 49) (v := 0) C dX9_isAsked_49 (by decide) ?_
    exact r_zret (pc := 50) C dX9_isAsked_50 (Or.inl rfl) h
  · have h := h.2 c3
    refine r_aload_n (pc := 8) C 0 dX9_isAsked_8 rfl ?_
    refine r_iload_n (pc := 9) C 2 dX9_isAsked_9 rfl ?_
    have hM := c_X9_isPerson X  M1 x2 _ h
    refine q_s0 (s1 := List.reverse [.int x2] ++ .ref (ad X 85) :: []) rfl ?_
    refine r_callVi (pc := 10) (k := 85) (As := [.int x2]) (st := []) C 1 (by decide) (ce85 _) rfl aw484 aw485 hM aw483 aw486 aw5 yd_X9_isPerson ⟨rfl, rfl⟩ ⟨Nat.le_of_ble_eq_true rfl, Nat.le_of_ble_eq_true rfl⟩ rfl (Nat.le_of_ble_eq_true rfl) dX9_isAsked_10 (fun r5 M4 h => ?_)
    refine r_if_eq (pc := 13) (tgt := 49) C dX9_isAsked_13 (by decide) (fun c6 => ?_) (fun c6 => ?_)
    · have h := h.1 c6
      refine r_iconst (pc := 49) (v := 0) C dX9_isAsked_49 (by decide) ?_
      exact r_zret (pc := 50) C dX9_isAsked_50 (Or.inl rfl) h
    · have h := h.2 c6
      refine r_iload_n (pc := 16) C 1 dX9_isAsked_16 rfl ?_
      refine r_iload_n (pc := 17) C 2 dX9_isAsked_17 rfl ?_
      refine r_icmp_eq (pc := 18) (tgt := 49) C dX9_isAsked_18 (by decide) (fun c7 => ?_) (fun c7 => ?_)
      · have h := h.1 c7
        refine r_iconst (pc := 49) (v := 0) C dX9_isAsked_49 (by decide) ?_
        exact r_zret (pc := 50) C dX9_isAsked_50 (Or.inl rfl) h
      · have h := h.2 c7
        refine r_iload_n (pc := 21) C 3 dX9_isAsked_21 rfl ?_
        have hM := c_X9_isRow X  M4 x3 _ h
        refine q_s0 (s1 := List.reverse [.int x3] ++ []) rfl ?_
        refine r_callSi (pc := 22) (As := [.int x3]) (st := []) C 1 hM aw143 aw144 aw145 aw5 yd_X9_isRow ⟨rfl, rfl⟩ ⟨Nat.le_of_ble_eq_true rfl, Nat.le_of_ble_eq_true rfl⟩ rfl (Nat.le_of_ble_eq_true rfl) dX9_isAsked_22 (fun r9 M8 h => ?_)
        refine r_if_eq (pc := 25) (tgt := 49) C dX9_isAsked_25 (by decide) (fun c10 => ?_) (fun c10 => ?_)
        · have h := h.1 c10
          refine r_iconst (pc := 49) (v := 0) C dX9_isAsked_49 (by decide) ?_
          exact r_zret (pc := 50) C dX9_isAsked_50 (Or.inl rfl) h
        · have h := h.2 c10
          refine r_iload (pc := 28) C 4 dX9_isAsked_28 rfl ?_
          refine r_i2l (pc := 30) C dX9_isAsked_30 ?_
          refine r_lconst (pc := 31) (v := 1) C dX9_isAsked_31 (by decide) ?_
          refine r_aload_n (pc := 32) C 0 dX9_isAsked_32 rfl ?_
          refine r_get (pc := 33) (k := 85) (j := 0) (Cn := RX9) (T := TX9) (N := 21) C (by decide) (ce85 _) rfl iaX9 (by decide) aw103 rfl rfl dX9_isAsked_33 ?_
          refine r_iconst (pc := 36) (v := 2) C dX9_isAsked_36 (by decide) ?_
          refine q_iald (pc := 37) (k := 86) (n := 3528) (j := 2) C (by decide) (ce86 _) (in_lit (by decide)) (by decide) dX9_isAsked_37 ?_
          refine r_i2l (pc := 38) C dX9_isAsked_38 ?_
          have hM := c_X9_in X  M8 (Int32.toInt64 x4) 1 (Int32.toInt64 (M8 86 2)) _ h
          refine q_s0 (s1 := List.reverse [.long (Int32.toInt64 x4), .long 1, .long (Int32.toInt64 (M8 86 2))] ++ []) rfl ?_
          refine r_callSi (pc := 39) (As := [.long (Int32.toInt64 x4), .long 1, .long (Int32.toInt64 (M8 86 2))]) (st := []) C 3 hM aw147 aw148 aw149 aw5 yd_X9_in ⟨rfl, rfl⟩ ⟨Nat.le_of_ble_eq_true rfl, Nat.le_of_ble_eq_true rfl⟩ rfl (Nat.le_of_ble_eq_true rfl) dX9_isAsked_39 (fun r12 M11 h => ?_)
          refine r_if_eq (pc := 42) (tgt := 49) C dX9_isAsked_42 (by decide) (fun c13 => ?_) (fun c13 => ?_)
          · have h := h.1 c13
            refine r_iconst (pc := 49) (v := 0) C dX9_isAsked_49 (by decide) ?_
            exact r_zret (pc := 50) C dX9_isAsked_50 (Or.inl rfl) h
          · have h := h.2 c13
            refine r_iconst (pc := 45) (v := 1) C dX9_isAsked_45 (by decide) ?_
            refine r_goto (pc := 46) (tgt := 50) C dX9_isAsked_46 (by decide) ?_
            exact r_zret (pc := 50) C dX9_isAsked_50 (Or.inr rfl) h
theorem yd_X9_noItems : yX9_noItems.cls ≠ "java/lang/invoke/MethodHandle" ∧ yX9_noItems.cls ≠ "java/lang/invoke/VarHandle" ∧ (parseMethodDescriptor yX9_noItems.desc).map (fun d => d.parameters.length) = some 3 := by decide +kernel
def w_X9_noItems  (M : Mem) (x1 : Int32) (x2 : Int32) (x3 : Int32) (Q : Int32 → Mem → Prop) : Prop :=
  vp_in x1 8 ∧ (((0 ≤ (M 89 (Int32.toNatClampNeg x1))) → (w_X9_isSpan  M x1 x2 x3 (fun r4 M3 => ((r4 = 0) → (w_X9_find  M3 2 (fun r7 M6 => Q r7 M6))) ∧ ((¬ r4 = 0) → (Q 0 M3))))) ∧ ((¬ 0 ≤ (M 89 (Int32.toNatClampNeg x1))) → (w_X9_find  M 1 (fun r9 M8 => Q r9 M8))))
abbrev rm_X9_noItems : Room := { frames := 6, cells := 0, slots := 0, locals := 120 }
set_option maxHeartbeats 4000000 in
set_option maxRecDepth 100000 in
theorem c_X9_noItems (X : Cx)  (M : Mem) (x1 : Int32) (x2 : Int32) (x3 : Int32) (Q : Int32 → Mem → Prop) (h : w_X9_noItems  M x1 x2 x3 Q) : Ct yX9_noItems cX9_noItems 4 (some .int) rm_X9_noItems X M [.ref (ad X 85), .int x1, .int x2, .int x3] (Qi X Q) := by
  refine ct_of (own := RX9) (lv := [(0, .ref (ad X 85)), (1, .int x1), (2, .int x2), (3, .int x3)]) rfl (by decide) (Nat.le_of_ble_eq_true rfl) rfl ?_
  intro K C
  unfold w_X9_noItems at h
  refine r_aload_n (pc := 0) C 0 dX9_noItems_0 rfl ?_
  refine r_get (pc := 1) (k := 85) (j := 4) (Cn := RX9) (T := TX9) (N := 21) C (by decide) (ce85 _) rfl iaX9 (by decide) aw107 rfl rfl dX9_noItems_1 ?_
  refine r_iload_n (pc := 4) C 1 dX9_noItems_4 rfl ?_
  obtain ⟨g1, h⟩ := h
  refine q_iald (pc := 5) (k := 89) (n := 8) (j := (Int32.toNatClampNeg x1)) C (by decide) (ce89 _) g1 rfl dX9_noItems_5 ?_
  refine r_if_ge (pc := 6) (tgt := 17) C dX9_noItems_6 (by decide) (fun c2 => ?_) (fun c2 => ?_)
  · have h := h.1 c2
    refine r_aload_n (pc := 17) C 0 dX9_noItems_17 rfl ?_
    refine r_iload_n (pc := 18) C 1 dX9_noItems_18 rfl ?_
    refine r_iload_n (pc := 19) C 2 dX9_noItems_19 rfl ?_
    refine r_iload_n (pc := 20) C 3 dX9_noItems_20 rfl ?_
    have hM := c_X9_isSpan X  M x1 x2 x3 _ h
    refine q_s0 (s1 := List.reverse [.int x1, .int x2, .int x3] ++ .ref (ad X 85) :: []) rfl ?_
    refine r_callVi (pc := 21) (k := 85) (As := [.int x1, .int x2, .int x3]) (st := []) C 3 (by decide) (ce85 _) rfl aw194 aw195 hM aw193 aw196 aw5 yd_X9_isSpan ⟨rfl, rfl⟩ ⟨Nat.le_of_ble_eq_true rfl, Nat.le_of_ble_eq_true rfl⟩ rfl (Nat.le_of_ble_eq_true rfl) dX9_noItems_21 (fun r4 M3 h => ?_)
    refine r_if_eq (pc := 24) (tgt := 31) C dX9_noItems_24 (by decide) (fun c5 => ?_) (fun c5 => ?_)
    · have h := h.1 c5
      refine r_aload_n (pc := 31) C 0 dX9_noItems_31 rfl ?_
      refine r_iconst (pc := 32) (v := 2) C dX9_noItems_32 (by decide) ?_
      have hM := c_X9_find X  M3 2 _ h
      refine q_s0 (s1 := List.reverse [.int 2] ++ .ref (ad X 85) :: []) rfl ?_
      refine r_callVi (pc := 33) (k := 85) (As := [.int 2]) (st := []) C 1 (by decide) (ce85 _) rfl aw151 aw152 hM aw150 aw153 aw5 yd_X9_find ⟨rfl, rfl⟩ ⟨Nat.le_of_ble_eq_true rfl, Nat.le_of_ble_eq_true rfl⟩ rfl (Nat.le_of_ble_eq_true rfl) dX9_noItems_33 (fun r7 M6 h => ?_)
      exact r_iret (pc := 36) C dX9_noItems_36 h
    · have h := h.2 c5
      refine r_iconst (pc := 27) (v := 0) C dX9_noItems_27 (by decide) ?_
      refine r_goto (pc := 28) (tgt := 36) C dX9_noItems_28 (by decide) ?_
      exact r_iret (pc := 36) C dX9_noItems_36 h
  · have h := h.2 c2
    refine r_aload_n (pc := 9) C 0 dX9_noItems_9 rfl ?_
    refine r_iconst (pc := 10) (v := 1) C dX9_noItems_10 (by decide) ?_
    have hM := c_X9_find X  M 1 _ h
    refine q_s0 (s1 := List.reverse [.int 1] ++ .ref (ad X 85) :: []) rfl ?_
    refine r_callVi (pc := 11) (k := 85) (As := [.int 1]) (st := []) C 1 (by decide) (ce85 _) rfl aw151 aw152 hM aw150 aw153 aw5 yd_X9_find ⟨rfl, rfl⟩ ⟨Nat.le_of_ble_eq_true rfl, Nat.le_of_ble_eq_true rfl⟩ rfl (Nat.le_of_ble_eq_true rfl) dX9_noItems_11 (fun r9 M8 h => ?_)
    refine r_goto (pc := 14) (tgt := 36) C dX9_noItems_14 (by decide) ?_
    exact r_iret (pc := 36) C dX9_noItems_36 h
theorem yd_X9_bents : yX9_bents.cls ≠ "java/lang/invoke/MethodHandle" ∧ yX9_bents.cls ≠ "java/lang/invoke/VarHandle" ∧ (parseMethodDescriptor yX9_bents.desc).map (fun d => d.parameters.length) = some 6 := by decide +kernel
def wJ_X9_bents_111  (Q : Int32 → Mem → Prop) (R63 : Mem → Int32 → Int32 → Int32 → Int32 → Int32 → Int32 → Int32 → Int32 → Int32 → Prop) (M : Mem) (x1 : Int32) (x2 : Int32) (x3 : Int32) (x4 : Int32) (x5 : Int32) (x6 : Int32) (x8 : Int32) (x10 : Int32) (x11 : Int32) (s0 : Int32) : Prop :=
  ((x11 = 0) → (∀ v2 : Int32, v2 = (x8 + 0) → (∀ v3 : Int32, v3 = x10 + 1 → (R63 M x1 x2 x3 x4 x5 x6 v2 s0 v3)))) ∧ ((¬ x11 = 0) → (∀ v4 : Int32, v4 = (x8 + 1) → (∀ v5 : Int32, v5 = x10 + 1 → (R63 M x1 x2 x3 x4 x5 x6 v4 s0 v5))))
def wJ_X9_bents_109  (Q : Int32 → Mem → Prop) (R63 : Mem → Int32 → Int32 → Int32 → Int32 → Int32 → Int32 → Int32 → Int32 → Int32 → Prop) (M : Mem) (x1 : Int32) (x2 : Int32) (x3 : Int32) (x4 : Int32) (x5 : Int32) (x6 : Int32) (x8 : Int32) (x9 : Int32) (x10 : Int32) (x11 : Int32) : Prop :=
  wJ_X9_bents_111  Q R63 M x1 x2 x3 x4 x5 x6 x8 x10 x11 x9
def wB_X9_bents_63  (Q : Int32 → Mem → Prop)  (R63 : Mem → Int32 → Int32 → Int32 → Int32 → Int32 → Int32 → Int32 → Int32 → Int32 → Prop) (M : Mem) (x1 : Int32) (x2 : Int32) (x3 : Int32) (x4 : Int32) (x5 : Int32) (x6 : Int32) (x8 : Int32) (x9 : Int32) (x10 : Int32) : Prop :=
  ((7 ≤ x10) → (((¬ x6 = 0) → (w_X9_well  M x9 (fun r4 M3 => Q r4 M3))) ∧ ((x6 = 0) → (w_X9_well  M x8 (fun r6 M5 => Q r6 M5))))) ∧ ((¬ 7 ≤ x10) → (vp_in (3432 + x1) 3528 ∧ (∀ M8 : Mem, M8 = ms M 86 (Int32.toNatClampNeg (3432 + x1)) x10 → (w_X9_isSo  M8 x2 x3 x4 x5 (fun r10 M9 => ((r10 = 0) → (wJ_X9_bents_109  Q R63 M9 x1 x2 x3 x4 x5 x6 x8 x9 x10 r10)) ∧ ((¬ r10 = 0) → (((¬ x8 = 0) → (wJ_X9_bents_109  Q R63 M9 x1 x2 x3 x4 x5 x6 x8 x9 x10 r10)) ∧ ((x8 = 0) → (wJ_X9_bents_111  Q R63 M9 x1 x2 x3 x4 x5 x6 x8 x10 r10 x10)))))))))
def wL_X9_bents_63  (Q : Int32 → Mem → Prop)  : Nat → Mem → Int32 → Int32 → Int32 → Int32 → Int32 → Int32 → Int32 → Int32 → Int32 → Prop
  | 0 => fun _ _ _ _ _ _ _ _ _ _ => False
  | n + 1 => fun M x1 x2 x3 x4 x5 x6 x8 x9 x10 => wB_X9_bents_63  Q  (wL_X9_bents_63  Q  n) M x1 x2 x3 x4 x5 x6 x8 x9 x10
theorem wL_X9_bents_63_s  {Q : Int32 → Mem → Prop}  {n : Nat} {M : Mem} {x1 : Int32} {x2 : Int32} {x3 : Int32} {x4 : Int32} {x5 : Int32} {x6 : Int32} {x8 : Int32} {x9 : Int32} {x10 : Int32} (h : wL_X9_bents_63  Q  (n + 1) M x1 x2 x3 x4 x5 x6 x8 x9 x10) : wB_X9_bents_63  Q  (wL_X9_bents_63  Q  n) M x1 x2 x3 x4 x5 x6 x8 x9 x10 := h
def w_X9_bents  (M : Mem) (x1 : Int32) (x2 : Int32) (x3 : Int32) (x4 : Int32) (x5 : Int32) (x6 : Int32) (Q : Int32 → Mem → Prop) : Prop :=
  w_X9_isAsked  M x1 x2 x3 x5 (fun r2 M1 => ((r2 = 0) → (Q (-1000001) M1)) ∧ ((¬ r2 = 0) → (w_X9_in  M1 (Int32.toInt64 x6) 0 1 (fun r5 M4 => ((¬ r5 = 0) → (w_X9_noItems  M4 x3 x4 x5 (fun r8 M7 => ((r8 = 0) → (w_X9_copyTown  M7 0 3402 (fun M10 => ∃ n12 : Nat, wL_X9_bents_63  Q  n12 M10 x1 x2 x3 x4 x5 x6 0 (-1000000) 0))) ∧ ((¬ r8 = 0) → (Q r8 M7))))) ∧ ((r5 = 0) → (Q (-1000001) M4))))))
abbrev rm_X9_bents : Room := { frames := 21, cells := 0, slots := 0, locals := 420 }
set_option maxHeartbeats 4000000 in
set_option maxRecDepth 100000 in
theorem c_X9_bents (X : Cx)  (M : Mem) (x1 : Int32) (x2 : Int32) (x3 : Int32) (x4 : Int32) (x5 : Int32) (x6 : Int32) (Q : Int32 → Mem → Prop) (h : w_X9_bents  M x1 x2 x3 x4 x5 x6 Q) : Ct yX9_bents cX9_bents 12 (some .int) rm_X9_bents X M [.ref (ad X 85), .int x1, .int x2, .int x3, .int x4, .int x5, .int x6] (Qi X Q) := by
  refine ct_of (own := RX9) (lv := [(0, .ref (ad X 85)), (1, .int x1), (2, .int x2), (3, .int x3), (4, .int x4), (5, .int x5), (6, .int x6)]) rfl (by decide) (Nat.le_of_ble_eq_true rfl) rfl ?_
  intro K C
  have hJ111 : ∀ (R63 : Mem → Int32 → Int32 → Int32 → Int32 → Int32 → Int32 → Int32 → Int32 → Int32 → Prop) (hR63 : ∀ (M : Mem) (x1 : Int32) (x2 : Int32) (x3 : Int32) (x4 : Int32) (x5 : Int32) (x6 : Int32) (x8 : Int32) (x9 : Int32) (x10 : Int32), R63 M x1 x2 x3 x4 x5 x6 x8 x9 x10 → WX K X 12 (Qi X Q) M 63 [(0, .ref (ad X 85)), (1, .int x1), (2, .int x2), (3, .int x3), (4, .int x4), (5, .int x5), (6, .int x6), (8, .int x8), (9, .int x9), (10, .int x10)] []) (M : Mem) (x1 : Int32) (x2 : Int32) (x3 : Int32) (x4 : Int32) (x5 : Int32) (x6 : Int32) (x8 : Int32) (x10 : Int32) (x11 : Int32) (s0 : Int32), wJ_X9_bents_111  Q R63 M x1 x2 x3 x4 x5 x6 x8 x10 x11 s0 → WX K X 12 (Qi X Q) M 111 [(0, .ref (ad X 85)), (1, .int x1), (2, .int x2), (3, .int x3), (4, .int x4), (5, .int x5), (6, .int x6), (8, .int x8), (10, .int x10), (11, .int x11)] [.int s0] := by
    intro R63 hR63 M x1 x2 x3 x4 x5 x6 x8 x10 x11 s0 h
    unfold wJ_X9_bents_111 at h
    refine r_istore (pc := 111) (lv2 := [(9, .int s0), (0, .ref (ad X 85)), (1, .int x1), (2, .int x2), (3, .int x3), (4, .int x4), (5, .int x5), (6, .int x6), (8, .int x8), (10, .int x10), (11, .int x11)]) C dX9_bents_111 (by decide) rfl ?_
    refine r_iload (pc := 113) C 8 dX9_bents_113 rfl ?_
    refine r_iload (pc := 115) C 10 dX9_bents_115 rfl ?_
    refine r_if_eq (pc := 117) (tgt := 124) C dX9_bents_117 (by decide) (fun c1 => ?_) (fun c1 => ?_)
    · have h := h.1 c1
      refine r_iconst (pc := 124) (v := 0) C dX9_bents_124 (by decide) ?_
      refine r_iadd (pc := 125) C dX9_bents_125 ?_
      refine r_topi (fun v2 ev2 => ?_)
      replace h := h v2 ev2
      refine r_istore (pc := 126) (lv2 := [(8, .int v2), (9, .int s0), (0, .ref (ad X 85)), (1, .int x1), (2, .int x2), (3, .int x3), (4, .int x4), (5, .int x5), (6, .int x6), (10, .int x10), (11, .int x11)]) C dX9_bents_126 (by decide) rfl ?_
      obtain ⟨v3, ev3⟩ : ∃ z : Int32, z = x10 + 1 := ⟨_, rfl⟩
      replace h := h v3 ev3
      refine r_iinc (pc := 128) (v := v3) (lv2 := [(10, .int v3), (8, .int v2), (9, .int s0), (0, .ref (ad X 85)), (1, .int x1), (2, .int x2), (3, .int x3), (4, .int x4), (5, .int x5), (6, .int x6), (11, .int x11)]) C 9 dX9_bents_128 rfl (by rw [ev3]; rfl) (by decide) rfl ?_
      refine r_goto (pc := 131) (tgt := 63) C dX9_bents_131 (by decide) ?_
      refine r_sub (lv2 := [(0, .ref (ad X 85)), (1, .int x1), (2, .int x2), (3, .int x3), (4, .int x4), (5, .int x5), (6, .int x6), (8, .int v2), (9, .int s0), (10, .int v3)]) [3, 4, 5, 6, 7, 8, 9, 1, 2, 0] rfl ?_
      exact hR63 _ _ _ _ _ _ _ _ _ _ h
    · have h := h.2 c1
      refine r_iconst (pc := 120) (v := 1) C dX9_bents_120 (by decide) ?_
      refine r_goto (pc := 121) (tgt := 125) C dX9_bents_121 (by decide) ?_
      refine r_iadd (pc := 125) C dX9_bents_125 ?_
      refine r_topi (fun v4 ev4 => ?_)
      replace h := h v4 ev4
      refine r_istore (pc := 126) (lv2 := [(8, .int v4), (9, .int s0), (0, .ref (ad X 85)), (1, .int x1), (2, .int x2), (3, .int x3), (4, .int x4), (5, .int x5), (6, .int x6), (10, .int x10), (11, .int x11)]) C dX9_bents_126 (by decide) rfl ?_
      obtain ⟨v5, ev5⟩ : ∃ z : Int32, z = x10 + 1 := ⟨_, rfl⟩
      replace h := h v5 ev5
      refine r_iinc (pc := 128) (v := v5) (lv2 := [(10, .int v5), (8, .int v4), (9, .int s0), (0, .ref (ad X 85)), (1, .int x1), (2, .int x2), (3, .int x3), (4, .int x4), (5, .int x5), (6, .int x6), (11, .int x11)]) C 9 dX9_bents_128 rfl (by rw [ev5]; rfl) (by decide) rfl ?_
      refine r_goto (pc := 131) (tgt := 63) C dX9_bents_131 (by decide) ?_
      refine r_sub (lv2 := [(0, .ref (ad X 85)), (1, .int x1), (2, .int x2), (3, .int x3), (4, .int x4), (5, .int x5), (6, .int x6), (8, .int v4), (9, .int s0), (10, .int v5)]) [3, 4, 5, 6, 7, 8, 9, 1, 2, 0] rfl ?_
      exact hR63 _ _ _ _ _ _ _ _ _ _ h
  have hJ109 : ∀ (R63 : Mem → Int32 → Int32 → Int32 → Int32 → Int32 → Int32 → Int32 → Int32 → Int32 → Prop) (hR63 : ∀ (M : Mem) (x1 : Int32) (x2 : Int32) (x3 : Int32) (x4 : Int32) (x5 : Int32) (x6 : Int32) (x8 : Int32) (x9 : Int32) (x10 : Int32), R63 M x1 x2 x3 x4 x5 x6 x8 x9 x10 → WX K X 12 (Qi X Q) M 63 [(0, .ref (ad X 85)), (1, .int x1), (2, .int x2), (3, .int x3), (4, .int x4), (5, .int x5), (6, .int x6), (8, .int x8), (9, .int x9), (10, .int x10)] []) (M : Mem) (x1 : Int32) (x2 : Int32) (x3 : Int32) (x4 : Int32) (x5 : Int32) (x6 : Int32) (x8 : Int32) (x9 : Int32) (x10 : Int32) (x11 : Int32), wJ_X9_bents_109  Q R63 M x1 x2 x3 x4 x5 x6 x8 x9 x10 x11 → WX K X 12 (Qi X Q) M 109 [(0, .ref (ad X 85)), (1, .int x1), (2, .int x2), (3, .int x3), (4, .int x4), (5, .int x5), (6, .int x6), (8, .int x8), (9, .int x9), (10, .int x10), (11, .int x11)] [] := by
    intro R63 hR63 M x1 x2 x3 x4 x5 x6 x8 x9 x10 x11 h
    unfold wJ_X9_bents_109 at h
    refine r_iload (pc := 109) C 8 dX9_bents_109 rfl ?_
    refine r_sub (lv2 := [(0, .ref (ad X 85)), (1, .int x1), (2, .int x2), (3, .int x3), (4, .int x4), (5, .int x5), (6, .int x6), (8, .int x8), (10, .int x10), (11, .int x11)]) [0, 1, 2, 3, 4, 5, 6, 7, 9, 10] rfl ?_
    exact hJ111 _ hR63 _ _ _ _ _ _ _ _ _ _ _ h
  have hL63 : ∀  (n : Nat) (M : Mem) (x1 : Int32) (x2 : Int32) (x3 : Int32) (x4 : Int32) (x5 : Int32) (x6 : Int32) (x8 : Int32) (x9 : Int32) (x10 : Int32), wL_X9_bents_63  Q  n M x1 x2 x3 x4 x5 x6 x8 x9 x10 → WX K X 12 (Qi X Q) M 63 [(0, .ref (ad X 85)), (1, .int x1), (2, .int x2), (3, .int x3), (4, .int x4), (5, .int x5), (6, .int x6), (8, .int x8), (9, .int x9), (10, .int x10)] [] := by
    intro  n
    induction n with
    | zero => intro M x1 x2 x3 x4 x5 x6 x8 x9 x10 h; exact absurd h id
    | succ n ih =>
      intro M x1 x2 x3 x4 x5 x6 x8 x9 x10 h
      replace h := wL_X9_bents_63_s h
      unfold wB_X9_bents_63 at h
      refine r_iload (pc := 63) C 9 dX9_bents_63 rfl ?_
      refine r_bipush (pc := 65) (v := 7) C dX9_bents_65 (by decide) ?_
      refine r_icmp_ge (pc := 67) (tgt := 134) C dX9_bents_67 (by decide) (fun c1 => ?_) (fun c1 => ?_)
      · have h := h.1 c1
        refine r_aload_n (pc := 134) C 0 dX9_bents_134 rfl ?_
        refine r_iload (pc := 135) C 6 dX9_bents_135 rfl ?_
        refine r_if_ne (pc := 137) (tgt := 145) C dX9_bents_137 (by decide) (fun c2 => ?_) (fun c2 => ?_)
        · have h := h.1 c2
          refine r_iload (pc := 145) C 8 dX9_bents_145 rfl ?_
          have hM := c_X9_well X  M x9 _ h
          refine q_s0 (s1 := List.reverse [.int x9] ++ .ref (ad X 85) :: []) rfl ?_
          refine r_callVi (pc := 147) (k := 85) (As := [.int x9]) (st := []) C 1 (by decide) (ce85 _) rfl aw157 aw158 hM aw156 aw159 aw5 yd_X9_well ⟨rfl, rfl⟩ ⟨Nat.le_of_ble_eq_true rfl, Nat.le_of_ble_eq_true rfl⟩ rfl (Nat.le_of_ble_eq_true rfl) dX9_bents_147 (fun r4 M3 h => ?_)
          exact r_iret (pc := 150) C dX9_bents_150 h
        · have h := h.2 c2
          refine r_iload (pc := 140) C 7 dX9_bents_140 rfl ?_
          refine r_goto (pc := 142) (tgt := 147) C dX9_bents_142 (by decide) ?_
          have hM := c_X9_well X  M x8 _ h
          refine q_s0 (s1 := List.reverse [.int x8] ++ .ref (ad X 85) :: []) rfl ?_
          refine r_callVi (pc := 147) (k := 85) (As := [.int x8]) (st := []) C 1 (by decide) (ce85 _) rfl aw157 aw158 hM aw156 aw159 aw5 yd_X9_well ⟨rfl, rfl⟩ ⟨Nat.le_of_ble_eq_true rfl, Nat.le_of_ble_eq_true rfl⟩ rfl (Nat.le_of_ble_eq_true rfl) dX9_bents_147 (fun r6 M5 h => ?_)
          exact r_iret (pc := 150) C dX9_bents_150 h
      · have h := h.2 c1
        refine r_aload_n (pc := 70) C 0 dX9_bents_70 rfl ?_
        refine r_get (pc := 71) (k := 85) (j := 0) (Cn := RX9) (T := TX9) (N := 21) C (by decide) (ce85 _) rfl iaX9 (by decide) aw103 rfl rfl dX9_bents_71 ?_
        refine r_sipush (pc := 74) (v := 3432) C dX9_bents_74 (by decide) ?_
        refine r_iload_n (pc := 77) C 1 dX9_bents_77 rfl ?_
        refine r_iadd (pc := 78) C dX9_bents_78 ?_
        refine r_iload (pc := 79) C 9 dX9_bents_79 rfl ?_
        obtain ⟨g7, h⟩ := h
        refine q_iast (pc := 81) (k := 86) (n := 3528) (j := (Int32.toNatClampNeg (3432 + x1))) C (by decide) (ce86) g7 rfl dX9_bents_81 ?_
        refine r_topM (fun M8 eM8 => ?_)
        replace h := h M8 eM8
        refine r_aload_n (pc := 82) C 0 dX9_bents_82 rfl ?_
        refine r_iload_n (pc := 83) C 2 dX9_bents_83 rfl ?_
        refine r_iload_n (pc := 84) C 3 dX9_bents_84 rfl ?_
        refine r_iload (pc := 85) C 4 dX9_bents_85 rfl ?_
        refine r_iload (pc := 87) C 5 dX9_bents_87 rfl ?_
        have hM := c_X9_isSo X  M8 x2 x3 x4 x5 _ h
        refine q_s0 (s1 := List.reverse [.int x2, .int x3, .int x4, .int x5] ++ .ref (ad X 85) :: []) rfl ?_
        refine r_callVi (pc := 89) (k := 85) (As := [.int x2, .int x3, .int x4, .int x5]) (st := []) C 4 (by decide) (ce85 _) rfl aw804 aw805 hM aw803 aw806 aw5 yd_X9_isSo ⟨rfl, rfl⟩ ⟨Nat.le_of_ble_eq_true rfl, Nat.le_of_ble_eq_true rfl⟩ rfl (Nat.le_of_ble_eq_true rfl) dX9_bents_89 (fun r10 M9 h => ?_)
        refine r_istore (pc := 92) (lv2 := [(11, .int r10), (0, .ref (ad X 85)), (1, .int x1), (2, .int x2), (3, .int x3), (4, .int x4), (5, .int x5), (6, .int x6), (8, .int x8), (9, .int x9), (10, .int x10)]) C dX9_bents_92 (by decide) rfl ?_
        refine r_iload (pc := 94) C 0 dX9_bents_94 rfl ?_
        refine r_if_eq (pc := 96) (tgt := 109) C dX9_bents_96 (by decide) (fun c11 => ?_) (fun c11 => ?_)
        · have h := h.1 c11
          refine r_sub (lv2 := [(0, .ref (ad X 85)), (1, .int x1), (2, .int x2), (3, .int x3), (4, .int x4), (5, .int x5), (6, .int x6), (8, .int x8), (9, .int x9), (10, .int x10), (11, .int r10)]) [1, 2, 3, 4, 5, 6, 7, 8, 9, 10, 0] rfl ?_
          exact hJ109 _ ih _ _ _ _ _ _ _ _ _ _ _ h
        · have h := h.2 c11
          refine r_iload (pc := 99) C 8 dX9_bents_99 rfl ?_
          refine r_if_ne (pc := 101) (tgt := 109) C dX9_bents_101 (by decide) (fun c12 => ?_) (fun c12 => ?_)
          · have h := h.1 c12
            refine r_sub (lv2 := [(0, .ref (ad X 85)), (1, .int x1), (2, .int x2), (3, .int x3), (4, .int x4), (5, .int x5), (6, .int x6), (8, .int x8), (9, .int x9), (10, .int x10), (11, .int r10)]) [1, 2, 3, 4, 5, 6, 7, 8, 9, 10, 0] rfl ?_
            exact hJ109 _ ih _ _ _ _ _ _ _ _ _ _ _ h
          · have h := h.2 c12
            refine r_iload (pc := 104) C 10 dX9_bents_104 rfl ?_
            refine r_goto (pc := 106) (tgt := 111) C dX9_bents_106 (by decide) ?_
            refine r_sub (lv2 := [(0, .ref (ad X 85)), (1, .int x1), (2, .int x2), (3, .int x3), (4, .int x4), (5, .int x5), (6, .int x6), (8, .int x8), (10, .int x10), (11, .int r10)]) [1, 2, 3, 4, 5, 6, 7, 8, 10, 0] rfl ?_
            exact hJ111 _ ih _ _ _ _ _ _ _ _ _ _ _ h
  unfold w_X9_bents at h
  refine r_aload_n (pc := 0) C 0 dX9_bents_0 rfl ?_
  refine r_iload_n (pc := 1) C 1 dX9_bents_1 rfl ?_
  refine r_iload_n (pc := 2) C 2 dX9_bents_2 rfl ?_
  refine r_iload_n (pc := 3) C 3 dX9_bents_3 rfl ?_
  refine r_iload (pc := 4) C 5 dX9_bents_4 rfl ?_
  have hM := c_X9_isAsked X  M x1 x2 x3 x5 _ h
  refine q_s0 (s1 := List.reverse [.int x1, .int x2, .int x3, .int x5] ++ .ref (ad X 85) :: []) rfl ?_
  refine r_callVi (pc := 6) (k := 85) (As := [.int x1, .int x2, .int x3, .int x5]) (st := []) C 4 (by decide) (ce85 _) rfl aw796 aw797 hM aw795 aw798 aw5 yd_X9_isAsked ⟨rfl, rfl⟩ ⟨Nat.le_of_ble_eq_true rfl, Nat.le_of_ble_eq_true rfl⟩ rfl (Nat.le_of_ble_eq_true rfl) dX9_bents_6 (fun r2 M1 h => ?_)
  refine r_if_eq (pc := 9) (tgt := 23) C dX9_bents_9 (by decide) (fun c3 => ?_) (fun c3 => ?_)
  · have h := h.1 c3
    refine r_ldc (pc := 23) C aw142 dX9_bents_23 ?_
    exact r_iret (pc := 25) C dX9_bents_25 h
  · have h := h.2 c3
    refine r_iload (pc := 12) C 6 dX9_bents_12 rfl ?_
    refine r_i2l (pc := 14) C dX9_bents_14 ?_
    refine r_lconst (pc := 15) (v := 0) C dX9_bents_15 (by decide) ?_
    refine r_lconst (pc := 16) (v := 1) C dX9_bents_16 (by decide) ?_
    have hM := c_X9_in X  M1 (Int32.toInt64 x6) 0 1 _ h
    refine q_s0 (s1 := List.reverse [.long (Int32.toInt64 x6), .long 0, .long 1] ++ []) rfl ?_
    refine r_callSi (pc := 17) (As := [.long (Int32.toInt64 x6), .long 0, .long 1]) (st := []) C 3 hM aw147 aw148 aw149 aw5 yd_X9_in ⟨rfl, rfl⟩ ⟨Nat.le_of_ble_eq_true rfl, Nat.le_of_ble_eq_true rfl⟩ rfl (Nat.le_of_ble_eq_true rfl) dX9_bents_17 (fun r5 M4 h => ?_)
    refine r_if_ne (pc := 20) (tgt := 26) C dX9_bents_20 (by decide) (fun c6 => ?_) (fun c6 => ?_)
    · have h := h.1 c6
      refine r_aload_n (pc := 26) C 0 dX9_bents_26 rfl ?_
      refine r_iload_n (pc := 27) C 3 dX9_bents_27 rfl ?_
      refine r_iload (pc := 28) C 4 dX9_bents_28 rfl ?_
      refine r_iload (pc := 30) C 5 dX9_bents_30 rfl ?_
      have hM := c_X9_noItems X  M4 x3 x4 x5 _ h
      refine q_s0 (s1 := List.reverse [.int x3, .int x4, .int x5] ++ .ref (ad X 85) :: []) rfl ?_
      refine r_callVi (pc := 32) (k := 85) (As := [.int x3, .int x4, .int x5]) (st := []) C 3 (by decide) (ce85 _) rfl aw800 aw801 hM aw799 aw802 aw5 yd_X9_noItems ⟨rfl, rfl⟩ ⟨Nat.le_of_ble_eq_true rfl, Nat.le_of_ble_eq_true rfl⟩ rfl (Nat.le_of_ble_eq_true rfl) dX9_bents_32 (fun r8 M7 h => ?_)
      refine r_istore (pc := 35) (lv2 := [(7, .int r8), (0, .ref (ad X 85)), (1, .int x1), (2, .int x2), (3, .int x3), (4, .int x4), (5, .int x5), (6, .int x6)]) C dX9_bents_35 (by decide) rfl ?_
      refine r_iload (pc := 37) C 0 dX9_bents_37 rfl ?_
      refine r_if_eq (pc := 39) (tgt := 45) C dX9_bents_39 (by decide) (fun c9 => ?_) (fun c9 => ?_)
      · have h := h.1 c9
        refine r_aload_n (pc := 45) C 1 dX9_bents_45 rfl ?_
        refine r_iconst (pc := 46) (v := 0) C dX9_bents_46 (by decide) ?_
        refine r_sipush (pc := 47) (v := 3402) C dX9_bents_47 (by decide) ?_
        have hM := c_X9_copyTown X  M7 0 3402 _ h
        refine q_s0 (s1 := List.reverse [.int 0, .int 3402] ++ .ref (ad X 85) :: []) rfl ?_
        refine r_callVv (pc := 50) (k := 85) (As := [.int 0, .int 3402]) (st := []) C 2 (by decide) (ce85 _) rfl aw377 aw378 hM aw376 aw379 aw5 yd_X9_copyTown ⟨rfl, rfl⟩ ⟨Nat.le_of_ble_eq_true rfl, Nat.le_of_ble_eq_true rfl⟩ rfl (Nat.le_of_ble_eq_true rfl) dX9_bents_50 (fun M10 h => ?_)
        refine r_iconst (pc := 53) (v := 0) C dX9_bents_53 (by decide) ?_
        refine r_istore (pc := 54) (lv2 := [(8, .int 0), (7, .int r8), (0, .ref (ad X 85)), (1, .int x1), (2, .int x2), (3, .int x3), (4, .int x4), (5, .int x5), (6, .int x6)]) C dX9_bents_54 (by decide) rfl ?_
        refine r_ldc (pc := 56) C aw330 dX9_bents_56 ?_
        refine r_istore (pc := 58) (lv2 := [(9, .int (-1000000)), (8, .int 0), (7, .int r8), (0, .ref (ad X 85)), (1, .int x1), (2, .int x2), (3, .int x3), (4, .int x4), (5, .int x5), (6, .int x6)]) C dX9_bents_58 (by decide) rfl ?_
        refine r_iconst (pc := 60) (v := 0) C dX9_bents_60 (by decide) ?_
        refine r_istore (pc := 61) (lv2 := [(10, .int 0), (9, .int (-1000000)), (8, .int 0), (7, .int r8), (0, .ref (ad X 85)), (1, .int x1), (2, .int x2), (3, .int x3), (4, .int x4), (5, .int x5), (6, .int x6)]) C dX9_bents_61 (by decide) rfl ?_
        obtain ⟨n12, h⟩ := h
        refine r_sub (lv2 := [(0, .ref (ad X 85)), (1, .int x1), (2, .int x2), (3, .int x3), (4, .int x4), (5, .int x5), (6, .int x6), (8, .int 0), (9, .int (-1000000)), (10, .int 0)]) [4, 5, 6, 7, 8, 9, 10, 2, 1, 0] rfl ?_
        exact hL63  _ _ _ _ _ _ _ _ _ _ _ h
      · have h := h.2 c9
        refine r_iload (pc := 42) C 0 dX9_bents_42 rfl ?_
        exact r_iret (pc := 44) C dX9_bents_44 h
    · have h := h.2 c6
      refine r_ldc (pc := 23) C aw142 dX9_bents_23 ?_
      exact r_iret (pc := 25) C dX9_bents_25 h
theorem yd_X9_who : yX9_who.cls ≠ "java/lang/invoke/MethodHandle" ∧ yX9_who.cls ≠ "java/lang/invoke/VarHandle" ∧ (parseMethodDescriptor yX9_who.desc).map (fun d => d.parameters.length) = some 5 := by decide +kernel
def wB_X9_who_48  (Q : Int32 → Mem → Prop)  (R48 : Mem → Int32 → Int32 → Int32 → Int32 → Int32 → Int32 → Int32 → Prop) (M : Mem) (x1 : Int32) (x2 : Int32) (x3 : Int32) (x4 : Int32) (x5 : Int32) (x7 : Int32) (x8 : Int32) : Prop :=
  ((6 ≤ x8) → (w_X9_well  M x7 (fun r3 M2 => Q r3 M2))) ∧ ((¬ 6 ≤ x8) → (vp_in (3420 + x1) 3528 ∧ (∀ M5 : Mem, M5 = ms M 86 (Int32.toNatClampNeg (3420 + x1)) x8 → (w_X9_isSo  M5 x2 x3 x4 x5 (fun r7 M6 => ((r7 = 0) → (∀ v9 : Int32, v9 = (x7 ||| 0) → (∀ v10 : Int32, v10 = x8 + 1 → (R48 M6 x1 x2 x3 x4 x5 v9 v10)))) ∧ ((¬ r7 = 0) → (∀ v11 : Int32, v11 = (x7 ||| (1 <<< (x8 &&& 31))) → (∀ v12 : Int32, v12 = x8 + 1 → (R48 M6 x1 x2 x3 x4 x5 v11 v12)))))))))
def wL_X9_who_48  (Q : Int32 → Mem → Prop)  : Nat → Mem → Int32 → Int32 → Int32 → Int32 → Int32 → Int32 → Int32 → Prop
  | 0 => fun _ _ _ _ _ _ _ _ => False
  | n + 1 => fun M x1 x2 x3 x4 x5 x7 x8 => wB_X9_who_48  Q  (wL_X9_who_48  Q  n) M x1 x2 x3 x4 x5 x7 x8
theorem wL_X9_who_48_s  {Q : Int32 → Mem → Prop}  {n : Nat} {M : Mem} {x1 : Int32} {x2 : Int32} {x3 : Int32} {x4 : Int32} {x5 : Int32} {x7 : Int32} {x8 : Int32} (h : wL_X9_who_48  Q  (n + 1) M x1 x2 x3 x4 x5 x7 x8) : wB_X9_who_48  Q  (wL_X9_who_48  Q  n) M x1 x2 x3 x4 x5 x7 x8 := h
def w_X9_who  (M : Mem) (x1 : Int32) (x2 : Int32) (x3 : Int32) (x4 : Int32) (x5 : Int32) (Q : Int32 → Mem → Prop) : Prop :=
  w_X9_isAsked  M x1 x2 x3 x5 (fun r2 M1 => ((¬ r2 = 0) → (w_X9_noItems  M1 x3 x4 x5 (fun r5 M4 => ((r5 = 0) → (w_X9_copyTown  M4 0 3402 (fun M7 => ∃ n9 : Nat, wL_X9_who_48  Q  n9 M7 x1 x2 x3 x4 x5 0 1))) ∧ ((¬ r5 = 0) → (Q r5 M4))))) ∧ ((r2 = 0) → (Q (-1000001) M1)))
abbrev rm_X9_who : Room := { frames := 21, cells := 0, slots := 0, locals := 420 }
set_option maxHeartbeats 4000000 in
set_option maxRecDepth 100000 in
theorem c_X9_who (X : Cx)  (M : Mem) (x1 : Int32) (x2 : Int32) (x3 : Int32) (x4 : Int32) (x5 : Int32) (Q : Int32 → Mem → Prop) (h : w_X9_who  M x1 x2 x3 x4 x5 Q) : Ct yX9_who cX9_who 9 (some .int) rm_X9_who X M [.ref (ad X 85), .int x1, .int x2, .int x3, .int x4, .int x5] (Qi X Q) := by
  refine ct_of (own := RX9) (lv := [(0, .ref (ad X 85)), (1, .int x1), (2, .int x2), (3, .int x3), (4, .int x4), (5, .int x5)]) rfl (by decide) (Nat.le_of_ble_eq_true rfl) rfl ?_
  intro K C
  have hL48 : ∀  (n : Nat) (M : Mem) (x1 : Int32) (x2 : Int32) (x3 : Int32) (x4 : Int32) (x5 : Int32) (x7 : Int32) (x8 : Int32), wL_X9_who_48  Q  n M x1 x2 x3 x4 x5 x7 x8 → WX K X 9 (Qi X Q) M 48 [(0, .ref (ad X 85)), (1, .int x1), (2, .int x2), (3, .int x3), (4, .int x4), (5, .int x5), (7, .int x7), (8, .int x8)] [] := by
    intro  n
    induction n with
    | zero => intro M x1 x2 x3 x4 x5 x7 x8 h; exact absurd h id
    | succ n ih =>
      intro M x1 x2 x3 x4 x5 x7 x8 h
      replace h := wL_X9_who_48_s h
      unfold wB_X9_who_48 at h
      refine r_iload (pc := 48) C 7 dX9_who_48 rfl ?_
      refine r_bipush (pc := 50) (v := 6) C dX9_who_50 (by decide) ?_
      refine r_icmp_ge (pc := 52) (tgt := 99) C dX9_who_52 (by decide) (fun c1 => ?_) (fun c1 => ?_)
      · have h := h.1 c1
        refine r_aload_n (pc := 99) C 0 dX9_who_99 rfl ?_
        refine r_iload (pc := 100) C 6 dX9_who_100 rfl ?_
        have hM := c_X9_well X  M x7 _ h
        refine q_s0 (s1 := List.reverse [.int x7] ++ .ref (ad X 85) :: []) rfl ?_
        refine r_callVi (pc := 102) (k := 85) (As := [.int x7]) (st := []) C 1 (by decide) (ce85 _) rfl aw157 aw158 hM aw156 aw159 aw5 yd_X9_well ⟨rfl, rfl⟩ ⟨Nat.le_of_ble_eq_true rfl, Nat.le_of_ble_eq_true rfl⟩ rfl (Nat.le_of_ble_eq_true rfl) dX9_who_102 (fun r3 M2 h => ?_)
        exact r_iret (pc := 105) C dX9_who_105 h
      · have h := h.2 c1
        refine r_aload_n (pc := 55) C 0 dX9_who_55 rfl ?_
        refine r_get (pc := 56) (k := 85) (j := 0) (Cn := RX9) (T := TX9) (N := 21) C (by decide) (ce85 _) rfl iaX9 (by decide) aw103 rfl rfl dX9_who_56 ?_
        refine r_sipush (pc := 59) (v := 3420) C dX9_who_59 (by decide) ?_
        refine r_iload_n (pc := 62) C 1 dX9_who_62 rfl ?_
        refine r_iadd (pc := 63) C dX9_who_63 ?_
        refine r_iload (pc := 64) C 7 dX9_who_64 rfl ?_
        obtain ⟨g4, h⟩ := h
        refine q_iast (pc := 66) (k := 86) (n := 3528) (j := (Int32.toNatClampNeg (3420 + x1))) C (by decide) (ce86) g4 rfl dX9_who_66 ?_
        refine r_topM (fun M5 eM5 => ?_)
        replace h := h M5 eM5
        refine r_iload (pc := 67) C 6 dX9_who_67 rfl ?_
        refine r_aload_n (pc := 69) C 0 dX9_who_69 rfl ?_
        refine r_iload_n (pc := 70) C 2 dX9_who_70 rfl ?_
        refine r_iload_n (pc := 71) C 3 dX9_who_71 rfl ?_
        refine r_iload (pc := 72) C 4 dX9_who_72 rfl ?_
        refine r_iload (pc := 74) C 5 dX9_who_74 rfl ?_
        have hM := c_X9_isSo X  M5 x2 x3 x4 x5 _ h
        refine q_s0 (s1 := List.reverse [.int x2, .int x3, .int x4, .int x5] ++ .ref (ad X 85) :: [.int x7]) rfl ?_
        refine r_callVi (pc := 76) (k := 85) (As := [.int x2, .int x3, .int x4, .int x5]) (st := [.int x7]) C 4 (by decide) (ce85 _) rfl aw804 aw805 hM aw803 aw806 aw5 yd_X9_isSo ⟨rfl, rfl⟩ ⟨Nat.le_of_ble_eq_true rfl, Nat.le_of_ble_eq_true rfl⟩ rfl (Nat.le_of_ble_eq_true rfl) dX9_who_76 (fun r7 M6 h => ?_)
        refine r_if_eq (pc := 79) (tgt := 89) C dX9_who_79 (by decide) (fun c8 => ?_) (fun c8 => ?_)
        · have h := h.1 c8
          refine r_iconst (pc := 89) (v := 0) C dX9_who_89 (by decide) ?_
          refine r_ior (pc := 90) C dX9_who_90 ?_
          refine r_topi (fun v9 ev9 => ?_)
          replace h := h v9 ev9
          refine r_istore (pc := 91) (lv2 := [(7, .int v9), (0, .ref (ad X 85)), (1, .int x1), (2, .int x2), (3, .int x3), (4, .int x4), (5, .int x5), (8, .int x8)]) C dX9_who_91 (by decide) rfl ?_
          obtain ⟨v10, ev10⟩ : ∃ z : Int32, z = x8 + 1 := ⟨_, rfl⟩
          replace h := h v10 ev10
          refine r_iinc (pc := 93) (v := v10) (lv2 := [(8, .int v10), (7, .int v9), (0, .ref (ad X 85)), (1, .int x1), (2, .int x2), (3, .int x3), (4, .int x4), (5, .int x5)]) C 7 dX9_who_93 rfl (by rw [ev10]; rfl) (by decide) rfl ?_
          refine r_goto (pc := 96) (tgt := 48) C dX9_who_96 (by decide) ?_
          refine r_sub (lv2 := [(0, .ref (ad X 85)), (1, .int x1), (2, .int x2), (3, .int x3), (4, .int x4), (5, .int x5), (7, .int v9), (8, .int v10)]) [2, 3, 4, 5, 6, 7, 1, 0] rfl ?_
          exact ih _ _ _ _ _ _ _ _ h
        · have h := h.2 c8
          refine r_iconst (pc := 82) (v := 1) C dX9_who_82 (by decide) ?_
          refine r_iload (pc := 83) C 7 dX9_who_83 rfl ?_
          refine r_ishl (pc := 85) C dX9_who_85 ?_
          refine r_goto (pc := 86) (tgt := 90) C dX9_who_86 (by decide) ?_
          refine r_ior (pc := 90) C dX9_who_90 ?_
          refine r_topi (fun v11 ev11 => ?_)
          replace h := h v11 ev11
          refine r_istore (pc := 91) (lv2 := [(7, .int v11), (0, .ref (ad X 85)), (1, .int x1), (2, .int x2), (3, .int x3), (4, .int x4), (5, .int x5), (8, .int x8)]) C dX9_who_91 (by decide) rfl ?_
          obtain ⟨v12, ev12⟩ : ∃ z : Int32, z = x8 + 1 := ⟨_, rfl⟩
          replace h := h v12 ev12
          refine r_iinc (pc := 93) (v := v12) (lv2 := [(8, .int v12), (7, .int v11), (0, .ref (ad X 85)), (1, .int x1), (2, .int x2), (3, .int x3), (4, .int x4), (5, .int x5)]) C 7 dX9_who_93 rfl (by rw [ev12]; rfl) (by decide) rfl ?_
          refine r_goto (pc := 96) (tgt := 48) C dX9_who_96 (by decide) ?_
          refine r_sub (lv2 := [(0, .ref (ad X 85)), (1, .int x1), (2, .int x2), (3, .int x3), (4, .int x4), (5, .int x5), (7, .int v11), (8, .int v12)]) [2, 3, 4, 5, 6, 7, 1, 0] rfl ?_
          exact ih _ _ _ _ _ _ _ _ h
  unfold w_X9_who at h
  refine r_aload_n (pc := 0) C 0 dX9_who_0 rfl ?_
  refine r_iload_n (pc := 1) C 1 dX9_who_1 rfl ?_
  refine r_iload_n (pc := 2) C 2 dX9_who_2 rfl ?_
  refine r_iload_n (pc := 3) C 3 dX9_who_3 rfl ?_
  refine r_iload (pc := 4) C 5 dX9_who_4 rfl ?_
  have hM := c_X9_isAsked X  M x1 x2 x3 x5 _ h
  refine q_s0 (s1 := List.reverse [.int x1, .int x2, .int x3, .int x5] ++ .ref (ad X 85) :: []) rfl ?_
  refine r_callVi (pc := 6) (k := 85) (As := [.int x1, .int x2, .int x3, .int x5]) (st := []) C 4 (by decide) (ce85 _) rfl aw796 aw797 hM aw795 aw798 aw5 yd_X9_isAsked ⟨rfl, rfl⟩ ⟨Nat.le_of_ble_eq_true rfl, Nat.le_of_ble_eq_true rfl⟩ rfl (Nat.le_of_ble_eq_true rfl) dX9_who_6 (fun r2 M1 h => ?_)
  refine r_if_ne (pc := 9) (tgt := 15) C dX9_who_9 (by decide) (fun c3 => ?_) (fun c3 => ?_)
  · have h := h.1 c3
    refine r_aload_n (pc := 15) C 0 dX9_who_15 rfl ?_
    refine r_iload_n (pc := 16) C 3 dX9_who_16 rfl ?_
    refine r_iload (pc := 17) C 4 dX9_who_17 rfl ?_
    refine r_iload (pc := 19) C 5 dX9_who_19 rfl ?_
    have hM := c_X9_noItems X  M1 x3 x4 x5 _ h
    refine q_s0 (s1 := List.reverse [.int x3, .int x4, .int x5] ++ .ref (ad X 85) :: []) rfl ?_
    refine r_callVi (pc := 21) (k := 85) (As := [.int x3, .int x4, .int x5]) (st := []) C 3 (by decide) (ce85 _) rfl aw800 aw801 hM aw799 aw802 aw5 yd_X9_noItems ⟨rfl, rfl⟩ ⟨Nat.le_of_ble_eq_true rfl, Nat.le_of_ble_eq_true rfl⟩ rfl (Nat.le_of_ble_eq_true rfl) dX9_who_21 (fun r5 M4 h => ?_)
    refine r_istore (pc := 24) (lv2 := [(6, .int r5), (0, .ref (ad X 85)), (1, .int x1), (2, .int x2), (3, .int x3), (4, .int x4), (5, .int x5)]) C dX9_who_24 (by decide) rfl ?_
    refine r_iload (pc := 26) C 0 dX9_who_26 rfl ?_
    refine r_if_eq (pc := 28) (tgt := 34) C dX9_who_28 (by decide) (fun c6 => ?_) (fun c6 => ?_)
    · have h := h.1 c6
      refine r_aload_n (pc := 34) C 1 dX9_who_34 rfl ?_
      refine r_iconst (pc := 35) (v := 0) C dX9_who_35 (by decide) ?_
      refine r_sipush (pc := 36) (v := 3402) C dX9_who_36 (by decide) ?_
      have hM := c_X9_copyTown X  M4 0 3402 _ h
      refine q_s0 (s1 := List.reverse [.int 0, .int 3402] ++ .ref (ad X 85) :: []) rfl ?_
      refine r_callVv (pc := 39) (k := 85) (As := [.int 0, .int 3402]) (st := []) C 2 (by decide) (ce85 _) rfl aw377 aw378 hM aw376 aw379 aw5 yd_X9_copyTown ⟨rfl, rfl⟩ ⟨Nat.le_of_ble_eq_true rfl, Nat.le_of_ble_eq_true rfl⟩ rfl (Nat.le_of_ble_eq_true rfl) dX9_who_39 (fun M7 h => ?_)
      refine r_iconst (pc := 42) (v := 0) C dX9_who_42 (by decide) ?_
      refine r_istore (pc := 43) (lv2 := [(7, .int 0), (6, .int r5), (0, .ref (ad X 85)), (1, .int x1), (2, .int x2), (3, .int x3), (4, .int x4), (5, .int x5)]) C dX9_who_43 (by decide) rfl ?_
      refine r_iconst (pc := 45) (v := 1) C dX9_who_45 (by decide) ?_
      refine r_istore (pc := 46) (lv2 := [(8, .int 1), (7, .int 0), (6, .int r5), (0, .ref (ad X 85)), (1, .int x1), (2, .int x2), (3, .int x3), (4, .int x4), (5, .int x5)]) C dX9_who_46 (by decide) rfl ?_
      obtain ⟨n9, h⟩ := h
      refine r_sub (lv2 := [(0, .ref (ad X 85)), (1, .int x1), (2, .int x2), (3, .int x3), (4, .int x4), (5, .int x5), (7, .int 0), (8, .int 1)]) [3, 4, 5, 6, 7, 8, 1, 0] rfl ?_
      exact hL48  _ _ _ _ _ _ _ _ _ h
    · have h := h.2 c6
      refine r_iload (pc := 31) C 0 dX9_who_31 rfl ?_
      exact r_iret (pc := 33) C dX9_who_33 h
  · have h := h.2 c3
    refine r_ldc (pc := 12) C aw142 dX9_who_12 ?_
    exact r_iret (pc := 14) C dX9_who_14 h
theorem yd_X9_awake : yX9_awake.cls ≠ "java/lang/invoke/MethodHandle" ∧ yX9_awake.cls ≠ "java/lang/invoke/VarHandle" ∧ (parseMethodDescriptor yX9_awake.desc).map (fun d => d.parameters.length) = some 4 := by decide +kernel
def wB_X9_awake_189  (Q : Int64 → Mem → Prop)  (R189 : Mem → Int32 → Int64 → Int64 → Int64 → Int64 → Prop) (M : Mem) (x4 : Int32) (x5 : Int64) (x7 : Int64) (x9 : Int64) (x11 : Int64) : Prop :=
  (((lg_cmp x11 0) = 0) → (((¬ x4 = 0) → ((¬ x9 = 0) ∧ (Q (x7 / x9) M))) ∧ ((x4 = 0) → ((¬ x9 = 0) ∧ (Q (x5 / x9) M))))) ∧ ((¬ (lg_cmp x11 0) = 0) → ((¬ x11 = 0) ∧ (∀ v6 : Int64, v6 = (x9 - x9 / x11 * x11) → (R189 M x4 x5 x7 x11 v6))))
def wL_X9_awake_189  (Q : Int64 → Mem → Prop)  : Nat → Mem → Int32 → Int64 → Int64 → Int64 → Int64 → Prop
  | 0 => fun _ _ _ _ _ _ => False
  | n + 1 => fun M x4 x5 x7 x9 x11 => wB_X9_awake_189  Q  (wL_X9_awake_189  Q  n) M x4 x5 x7 x9 x11
theorem wL_X9_awake_189_s  {Q : Int64 → Mem → Prop}  {n : Nat} {M : Mem} {x4 : Int32} {x5 : Int64} {x7 : Int64} {x9 : Int64} {x11 : Int64} (h : wL_X9_awake_189  Q  (n + 1) M x4 x5 x7 x9 x11) : wB_X9_awake_189  Q  (wL_X9_awake_189  Q  n) M x4 x5 x7 x9 x11 := h
def wB_X9_awake_84  (Q : Int64 → Mem → Prop) (R52 : Mem → Int32 → Int32 → Int32 → Int32 → Int64 → Int64 → Int32 → Prop) (R84 : Mem → Int32 → Int32 → Int32 → Int32 → Int64 → Int64 → Int32 → Int64 → Int32 → Prop) (M : Mem) (x1 : Int32) (x2 : Int32) (x3 : Int32) (x4 : Int32) (x5 : Int64) (x7 : Int64) (x9 : Int32) (x10 : Int64) (x12 : Int32) : Prop :=
  (((M 86 3) ≤ x12) → (∀ M2 : Mem, M2 = ms M 85 15 x9 → (w_X9_opens  M2 0 x1 x2 (fun r4 M3 => ((r4 = 0) → (∀ v6 : Int64, v6 = (x5 + 0) → (∀ v7 : Int64, v7 = (x7 + x10) → (∀ v8 : Int32, v8 = x9 + 1 → (R52 M3 x1 x2 x3 x4 v6 v7 v8))))) ∧ ((¬ r4 = 0) → (∀ v9 : Int64, v9 = (x5 + x10) → (∀ v10 : Int64, v10 = (x7 + x10) → (∀ v11 : Int32, v11 = x9 + 1 → (R52 M3 x1 x2 x3 x4 v9 v10 v11))))))))) ∧ ((¬ (M 86 3) ≤ x12) → (((¬ x12 = x1) → (w_X9_has  M x9 x12 (fun r14 M13 => ((r14 = 0) → (∀ v16 : Int64, v16 = (x10 * (Int32.toInt64 x3)) → (∀ v17 : Int32, v17 = x12 + 1 → (R84 M13 x1 x2 x3 x4 x5 x7 x9 v16 v17)))) ∧ ((¬ r14 = 0) → (∀ v18 : Int64, v18 = (x10 * (Int32.toInt64 (10 - x3))) → (∀ v19 : Int32, v19 = x12 + 1 → (R84 M13 x1 x2 x3 x4 x5 x7 x9 v18 v19))))))) ∧ ((x12 = x1) → (∀ v20 : Int64, v20 = (x10 * 1) → (∀ v21 : Int32, v21 = x12 + 1 → (R84 M x1 x2 x3 x4 x5 x7 x9 v20 v21))))))
def wL_X9_awake_84  (Q : Int64 → Mem → Prop) (R52 : Mem → Int32 → Int32 → Int32 → Int32 → Int64 → Int64 → Int32 → Prop) : Nat → Mem → Int32 → Int32 → Int32 → Int32 → Int64 → Int64 → Int32 → Int64 → Int32 → Prop
  | 0 => fun _ _ _ _ _ _ _ _ _ _ => False
  | n + 1 => fun M x1 x2 x3 x4 x5 x7 x9 x10 x12 => wB_X9_awake_84  Q R52 (wL_X9_awake_84  Q R52 n) M x1 x2 x3 x4 x5 x7 x9 x10 x12
theorem wL_X9_awake_84_s  {Q : Int64 → Mem → Prop} {R52 : Mem → Int32 → Int32 → Int32 → Int32 → Int64 → Int64 → Int32 → Prop} {n : Nat} {M : Mem} {x1 : Int32} {x2 : Int32} {x3 : Int32} {x4 : Int32} {x5 : Int64} {x7 : Int64} {x9 : Int32} {x10 : Int64} {x12 : Int32} (h : wL_X9_awake_84  Q R52 (n + 1) M x1 x2 x3 x4 x5 x7 x9 x10 x12) : wB_X9_awake_84  Q R52 (wL_X9_awake_84  Q R52 n) M x1 x2 x3 x4 x5 x7 x9 x10 x12 := h
def wJ_X9_awake_79  (Q : Int64 → Mem → Prop) (R52 : Mem → Int32 → Int32 → Int32 → Int32 → Int64 → Int64 → Int32 → Prop) (M : Mem) (x1 : Int32) (x2 : Int32) (x3 : Int32) (x4 : Int32) (x5 : Int64) (x7 : Int64) (x9 : Int32) (s0 : Int64) : Prop :=
  ∃ n1 : Nat, wL_X9_awake_84  Q R52 n1 M x1 x2 x3 x4 x5 x7 x9 s0 0
def wB_X9_awake_52  (Q : Int64 → Mem → Prop)  (R52 : Mem → Int32 → Int32 → Int32 → Int32 → Int64 → Int64 → Int32 → Prop) (M : Mem) (x1 : Int32) (x2 : Int32) (x3 : Int32) (x4 : Int32) (x5 : Int64) (x7 : Int64) (x9 : Int32) : Prop :=
  (((1 <<< ((M 86 3) &&& 31)) ≤ x9) → (∀ M2 : Mem, M2 = ms M 85 15 0 → (∃ n3 : Nat, wL_X9_awake_189  Q  n3 M2 x4 x5 x7 x5 x7))) ∧ ((¬ (1 <<< ((M 86 3) &&& 31)) ≤ x9) → (w_X9_has  M x9 x1 (fun r5 M4 => ((r5 = 0) → (wJ_X9_awake_79  Q R52 M4 x1 x2 x3 x4 x5 x7 x9 1)) ∧ ((¬ r5 = 0) → (wJ_X9_awake_79  Q R52 M4 x1 x2 x3 x4 x5 x7 x9 0)))))
def wL_X9_awake_52  (Q : Int64 → Mem → Prop)  : Nat → Mem → Int32 → Int32 → Int32 → Int32 → Int64 → Int64 → Int32 → Prop
  | 0 => fun _ _ _ _ _ _ _ _ => False
  | n + 1 => fun M x1 x2 x3 x4 x5 x7 x9 => wB_X9_awake_52  Q  (wL_X9_awake_52  Q  n) M x1 x2 x3 x4 x5 x7 x9
theorem wL_X9_awake_52_s  {Q : Int64 → Mem → Prop}  {n : Nat} {M : Mem} {x1 : Int32} {x2 : Int32} {x3 : Int32} {x4 : Int32} {x5 : Int64} {x7 : Int64} {x9 : Int32} (h : wL_X9_awake_52  Q  (n + 1) M x1 x2 x3 x4 x5 x7 x9) : wB_X9_awake_52  Q  (wL_X9_awake_52  Q  n) M x1 x2 x3 x4 x5 x7 x9 := h
def w_X9_awake  (M : Mem) (x1 : Int32) (x2 : Int32) (x3 : Int32) (x4 : Int32) (Q : Int64 → Mem → Prop) : Prop :=
  w_X9_isPerson  M x1 (fun r2 M1 => ((r2 = 0) → (Q (-1000001) M1)) ∧ ((¬ r2 = 0) → (w_X9_isDoor  M1 x2 (fun r5 M4 => ((r5 = 0) → (Q (-1000001) M4)) ∧ ((¬ r5 = 0) → (w_X9_in  M4 (Int32.toInt64 x3) 0 10 (fun r8 M7 => ((r8 = 0) → (Q (-1000001) M7)) ∧ ((¬ r8 = 0) → (w_X9_in  M7 (Int32.toInt64 x4) 0 1 (fun r11 M10 => ((¬ r11 = 0) → (∃ n13 : Nat, wL_X9_awake_52  Q  n13 M10 x1 x2 x3 x4 0 0 0)) ∧ ((r11 = 0) → (Q (-1000001) M10))))))))))))
abbrev rm_X9_awake : Room := { frames := 18, cells := 0, slots := 0, locals := 360 }
set_option maxHeartbeats 4000000 in
set_option maxRecDepth 100000 in
theorem c_X9_awake (X : Cx)  (M : Mem) (x1 : Int32) (x2 : Int32) (x3 : Int32) (x4 : Int32) (Q : Int64 → Mem → Prop) (h : w_X9_awake  M x1 x2 x3 x4 Q) : Ct yX9_awake cX9_awake 15 (some .long) rm_X9_awake X M [.ref (ad X 85), .int x1, .int x2, .int x3, .int x4] (Ql X Q) := by
  refine ct_of (own := RX9) (lv := [(0, .ref (ad X 85)), (1, .int x1), (2, .int x2), (3, .int x3), (4, .int x4)]) rfl (by decide) (Nat.le_of_ble_eq_true rfl) rfl ?_
  intro K C
  have hL189 : ∀  (n : Nat) (M : Mem) (x4 : Int32) (x5 : Int64) (x7 : Int64) (x9 : Int64) (x11 : Int64), wL_X9_awake_189  Q  n M x4 x5 x7 x9 x11 → WX K X 15 (Ql X Q) M 189 [(4, .int x4), (5, .long x5), (7, .long x7), (9, .long x9), (11, .long x11)] [] := by
    intro  n
    induction n with
    | zero => intro M x4 x5 x7 x9 x11 h; exact absurd h id
    | succ n ih =>
      intro M x4 x5 x7 x9 x11 h
      replace h := wL_X9_awake_189_s h
      unfold wB_X9_awake_189 at h
      refine r_lload (pc := 189) C 4 dX9_awake_189 rfl ?_
      refine r_lconst (pc := 191) (v := 0) C dX9_awake_191 (by decide) ?_
      refine r_lcmp (pc := 192) C dX9_awake_192 ?_
      refine r_if_eq (pc := 193) (tgt := 214) C dX9_awake_193 (by decide) (fun c1 => ?_) (fun c1 => ?_)
      · have h := h.1 c1
        refine r_iload (pc := 214) C 0 dX9_awake_214 rfl ?_
        refine r_if_ne (pc := 216) (tgt := 227) C dX9_awake_216 (by decide) (fun c2 => ?_) (fun c2 => ?_)
        · have h := h.1 c2
          refine r_lload (pc := 227) C 2 dX9_awake_227 rfl ?_
          refine r_lload (pc := 229) C 3 dX9_awake_229 rfl ?_
          obtain ⟨g3, h⟩ := h
          refine r_ldiv (pc := 231) C dX9_awake_231 g3 ?_
          exact r_lret (pc := 232) C dX9_awake_232 h
        · have h := h.2 c2
          refine r_lload (pc := 219) C 1 dX9_awake_219 rfl ?_
          refine r_lload (pc := 221) C 3 dX9_awake_221 rfl ?_
          obtain ⟨g4, h⟩ := h
          refine r_ldiv (pc := 223) C dX9_awake_223 g4 ?_
          refine r_goto (pc := 224) (tgt := 232) C dX9_awake_224 (by decide) ?_
          exact r_lret (pc := 232) C dX9_awake_232 h
      · have h := h.2 c1
        refine r_lload (pc := 196) C 3 dX9_awake_196 rfl ?_
        refine r_lload (pc := 198) C 4 dX9_awake_198 rfl ?_
        obtain ⟨g5, h⟩ := h
        refine r_lrem (pc := 200) C dX9_awake_200 g5 ?_
        refine r_topl (fun v6 ev6 => ?_)
        replace h := h v6 ev6
        refine r_lstore (pc := 201) (lv2 := [(13, .long v6), (4, .int x4), (5, .long x5), (7, .long x7), (9, .long x9), (11, .long x11)]) C dX9_awake_201 (by decide) rfl ?_
        refine r_lload (pc := 203) C 5 dX9_awake_203 rfl ?_
        refine r_lstore (pc := 205) (lv2 := [(9, .long x11), (13, .long v6), (4, .int x4), (5, .long x5), (7, .long x7), (11, .long x11)]) C dX9_awake_205 (by decide) rfl ?_
        refine r_lload (pc := 207) C 1 dX9_awake_207 rfl ?_
        refine r_lstore (pc := 209) (lv2 := [(11, .long v6), (9, .long x11), (13, .long v6), (4, .int x4), (5, .long x5), (7, .long x7)]) C dX9_awake_209 (by decide) rfl ?_
        refine r_goto (pc := 211) (tgt := 189) C dX9_awake_211 (by decide) ?_
        refine r_sub (lv2 := [(4, .int x4), (5, .long x5), (7, .long x7), (9, .long x11), (11, .long v6)]) [3, 4, 5, 1, 0] rfl ?_
        exact ih _ _ _ _ _ _ h
  have hL84 : ∀ (R52 : Mem → Int32 → Int32 → Int32 → Int32 → Int64 → Int64 → Int32 → Prop) (hR52 : ∀ (M : Mem) (x1 : Int32) (x2 : Int32) (x3 : Int32) (x4 : Int32) (x5 : Int64) (x7 : Int64) (x9 : Int32), R52 M x1 x2 x3 x4 x5 x7 x9 → WX K X 15 (Ql X Q) M 52 [(0, .ref (ad X 85)), (1, .int x1), (2, .int x2), (3, .int x3), (4, .int x4), (5, .long x5), (7, .long x7), (9, .int x9)] []) (n : Nat) (M : Mem) (x1 : Int32) (x2 : Int32) (x3 : Int32) (x4 : Int32) (x5 : Int64) (x7 : Int64) (x9 : Int32) (x10 : Int64) (x12 : Int32), wL_X9_awake_84  Q R52 n M x1 x2 x3 x4 x5 x7 x9 x10 x12 → WX K X 15 (Ql X Q) M 84 [(0, .ref (ad X 85)), (1, .int x1), (2, .int x2), (3, .int x3), (4, .int x4), (5, .long x5), (7, .long x7), (9, .int x9), (10, .long x10), (12, .int x12)] [] := by
    intro R52 hR52 n
    induction n with
    | zero => intro M x1 x2 x3 x4 x5 x7 x9 x10 x12 h; exact absurd h id
    | succ n ih =>
      intro M x1 x2 x3 x4 x5 x7 x9 x10 x12 h
      replace h := wL_X9_awake_84_s h
      unfold wB_X9_awake_84 at h
      refine r_iload (pc := 84) C 9 dX9_awake_84 rfl ?_
      refine r_aload_n (pc := 86) C 0 dX9_awake_86 rfl ?_
      refine r_get (pc := 87) (k := 85) (j := 0) (Cn := RX9) (T := TX9) (N := 21) C (by decide) (ce85 _) rfl iaX9 (by decide) aw103 rfl rfl dX9_awake_87 ?_
      refine r_iconst (pc := 90) (v := 3) C dX9_awake_90 (by decide) ?_
      refine q_iald (pc := 91) (k := 86) (n := 3528) (j := 3) C (by decide) (ce86 _) (in_lit (by decide)) (by decide) dX9_awake_91 ?_
      refine r_icmp_ge (pc := 92) (tgt := 136) C dX9_awake_92 (by decide) (fun c1 => ?_) (fun c1 => ?_)
      · have h := h.1 c1
        refine r_aload_n (pc := 136) C 0 dX9_awake_136 rfl ?_
        refine r_iload (pc := 137) C 7 dX9_awake_137 rfl ?_
        refine r_put (pc := 139) (k := 85) (j := 15) (Cn := RX9) (T := TX9) (N := 21) (host := "") C (by decide) (ce85 _) rfl iaX9 (by decide) (ce85 _) tyX9_ok nmX9 aw515 rfl rfl (tyX9_ok 15 (by decide)) (Nat.le_of_ble_eq_true rfl) dX9_awake_139 ?_
        refine r_topM (fun M2 eM2 => ?_)
        replace h := h M2 eM2
        refine r_lload (pc := 142) C 5 dX9_awake_142 rfl ?_
        refine r_aload_n (pc := 144) C 0 dX9_awake_144 rfl ?_
        refine r_iconst (pc := 145) (v := 0) C dX9_awake_145 (by decide) ?_
        refine r_iload_n (pc := 146) C 1 dX9_awake_146 rfl ?_
        refine r_iload_n (pc := 147) C 2 dX9_awake_147 rfl ?_
        have hM := c_X9_opens X  M2 0 x1 x2 _ h
        refine q_s0 (s1 := List.reverse [.int 0, .int x1, .int x2] ++ .ref (ad X 85) :: [.long x5]) rfl ?_
        refine r_callVi (pc := 148) (k := 85) (As := [.int 0, .int x1, .int x2]) (st := [.long x5]) C 3 (by decide) (ce85 _) rfl aw508 aw509 hM aw507 aw510 aw5 yd_X9_opens ⟨rfl, rfl⟩ ⟨Nat.le_of_ble_eq_true rfl, Nat.le_of_ble_eq_true rfl⟩ rfl (Nat.le_of_ble_eq_true rfl) dX9_awake_148 (fun r4 M3 h => ?_)
        refine r_if_eq (pc := 151) (tgt := 159) C dX9_awake_151 (by decide) (fun c5 => ?_) (fun c5 => ?_)
        · have h := h.1 c5
          refine r_lconst (pc := 159) (v := 0) C dX9_awake_159 (by decide) ?_
          refine r_ladd (pc := 160) C dX9_awake_160 ?_
          refine r_topl (fun v6 ev6 => ?_)
          replace h := h v6 ev6
          refine r_lstore (pc := 161) (lv2 := [(5, .long v6), (0, .ref (ad X 85)), (1, .int x1), (2, .int x2), (3, .int x3), (4, .int x4), (7, .long x7), (9, .int x9), (10, .long x10), (12, .int x12)]) C dX9_awake_161 (by decide) rfl ?_
          refine r_lload (pc := 163) C 6 dX9_awake_163 rfl ?_
          refine r_lload (pc := 165) C 8 dX9_awake_165 rfl ?_
          refine r_ladd (pc := 167) C dX9_awake_167 ?_
          refine r_topl (fun v7 ev7 => ?_)
          replace h := h v7 ev7
          refine r_lstore (pc := 168) (lv2 := [(7, .long v7), (5, .long v6), (0, .ref (ad X 85)), (1, .int x1), (2, .int x2), (3, .int x3), (4, .int x4), (9, .int x9), (10, .long x10), (12, .int x12)]) C dX9_awake_168 (by decide) rfl ?_
          obtain ⟨v8, ev8⟩ : ∃ z : Int32, z = x9 + 1 := ⟨_, rfl⟩
          replace h := h v8 ev8
          refine r_iinc (pc := 170) (v := v8) (lv2 := [(9, .int v8), (7, .long v7), (5, .long v6), (0, .ref (ad X 85)), (1, .int x1), (2, .int x2), (3, .int x3), (4, .int x4), (10, .long x10), (12, .int x12)]) C 7 dX9_awake_170 rfl (by rw [ev8]; rfl) (by decide) rfl ?_
          refine r_goto (pc := 173) (tgt := 52) C dX9_awake_173 (by decide) ?_
          refine r_sub (lv2 := [(0, .ref (ad X 85)), (1, .int x1), (2, .int x2), (3, .int x3), (4, .int x4), (5, .long v6), (7, .long v7), (9, .int v8)]) [3, 4, 5, 6, 7, 2, 1, 0] rfl ?_
          exact hR52 _ _ _ _ _ _ _ _ h
        · have h := h.2 c5
          refine r_lload (pc := 154) C 8 dX9_awake_154 rfl ?_
          refine r_goto (pc := 156) (tgt := 160) C dX9_awake_156 (by decide) ?_
          refine r_ladd (pc := 160) C dX9_awake_160 ?_
          refine r_topl (fun v9 ev9 => ?_)
          replace h := h v9 ev9
          refine r_lstore (pc := 161) (lv2 := [(5, .long v9), (0, .ref (ad X 85)), (1, .int x1), (2, .int x2), (3, .int x3), (4, .int x4), (7, .long x7), (9, .int x9), (10, .long x10), (12, .int x12)]) C dX9_awake_161 (by decide) rfl ?_
          refine r_lload (pc := 163) C 6 dX9_awake_163 rfl ?_
          refine r_lload (pc := 165) C 8 dX9_awake_165 rfl ?_
          refine r_ladd (pc := 167) C dX9_awake_167 ?_
          refine r_topl (fun v10 ev10 => ?_)
          replace h := h v10 ev10
          refine r_lstore (pc := 168) (lv2 := [(7, .long v10), (5, .long v9), (0, .ref (ad X 85)), (1, .int x1), (2, .int x2), (3, .int x3), (4, .int x4), (9, .int x9), (10, .long x10), (12, .int x12)]) C dX9_awake_168 (by decide) rfl ?_
          obtain ⟨v11, ev11⟩ : ∃ z : Int32, z = x9 + 1 := ⟨_, rfl⟩
          replace h := h v11 ev11
          refine r_iinc (pc := 170) (v := v11) (lv2 := [(9, .int v11), (7, .long v10), (5, .long v9), (0, .ref (ad X 85)), (1, .int x1), (2, .int x2), (3, .int x3), (4, .int x4), (10, .long x10), (12, .int x12)]) C 7 dX9_awake_170 rfl (by rw [ev11]; rfl) (by decide) rfl ?_
          refine r_goto (pc := 173) (tgt := 52) C dX9_awake_173 (by decide) ?_
          refine r_sub (lv2 := [(0, .ref (ad X 85)), (1, .int x1), (2, .int x2), (3, .int x3), (4, .int x4), (5, .long v9), (7, .long v10), (9, .int v11)]) [3, 4, 5, 6, 7, 2, 1, 0] rfl ?_
          exact hR52 _ _ _ _ _ _ _ _ h
      · have h := h.2 c1
        refine r_lload (pc := 95) C 8 dX9_awake_95 rfl ?_
        refine r_iload (pc := 97) C 9 dX9_awake_97 rfl ?_
        refine r_iload_n (pc := 99) C 1 dX9_awake_99 rfl ?_
        refine r_icmp_ne (pc := 100) (tgt := 107) C dX9_awake_100 (by decide) (fun c12 => ?_) (fun c12 => ?_)
        · have h := h.1 c12
          refine r_iload (pc := 107) C 7 dX9_awake_107 rfl ?_
          refine r_iload (pc := 109) C 9 dX9_awake_109 rfl ?_
          have hM := c_X9_has X  M x9 x12 _ h
          refine q_s0 (s1 := List.reverse [.int x9, .int x12] ++ [.long x10]) rfl ?_
          refine r_callSi (pc := 111) (As := [.int x9, .int x12]) (st := [.long x10]) C 2 hM aw373 aw374 aw375 aw5 yd_X9_has ⟨rfl, rfl⟩ ⟨Nat.le_of_ble_eq_true rfl, Nat.le_of_ble_eq_true rfl⟩ rfl (Nat.le_of_ble_eq_true rfl) dX9_awake_111 (fun r14 M13 h => ?_)
          refine r_if_eq (pc := 114) (tgt := 125) C dX9_awake_114 (by decide) (fun c15 => ?_) (fun c15 => ?_)
          · have h := h.1 c15
            refine r_iload_n (pc := 125) C 3 dX9_awake_125 rfl ?_
            refine r_i2l (pc := 126) C dX9_awake_126 ?_
            refine r_lmul (pc := 127) C dX9_awake_127 ?_
            refine r_topl (fun v16 ev16 => ?_)
            replace h := h v16 ev16
            refine r_lstore (pc := 128) (lv2 := [(10, .long v16), (0, .ref (ad X 85)), (1, .int x1), (2, .int x2), (3, .int x3), (4, .int x4), (5, .long x5), (7, .long x7), (9, .int x9), (12, .int x12)]) C dX9_awake_128 (by decide) rfl ?_
            obtain ⟨v17, ev17⟩ : ∃ z : Int32, z = x12 + 1 := ⟨_, rfl⟩
            replace h := h v17 ev17
            refine r_iinc (pc := 130) (v := v17) (lv2 := [(12, .int v17), (10, .long v16), (0, .ref (ad X 85)), (1, .int x1), (2, .int x2), (3, .int x3), (4, .int x4), (5, .long x5), (7, .long x7), (9, .int x9)]) C 9 dX9_awake_130 rfl (by rw [ev17]; rfl) (by decide) rfl ?_
            refine r_goto (pc := 133) (tgt := 84) C dX9_awake_133 (by decide) ?_
            refine r_sub (lv2 := [(0, .ref (ad X 85)), (1, .int x1), (2, .int x2), (3, .int x3), (4, .int x4), (5, .long x5), (7, .long x7), (9, .int x9), (10, .long v16), (12, .int v17)]) [2, 3, 4, 5, 6, 7, 8, 9, 1, 0] rfl ?_
            exact ih _ _ _ _ _ _ _ _ _ _ h
          · have h := h.2 c15
            refine r_bipush (pc := 117) (v := 10) C dX9_awake_117 (by decide) ?_
            refine r_iload_n (pc := 119) C 3 dX9_awake_119 rfl ?_
            refine r_isub (pc := 120) C dX9_awake_120 ?_
            refine r_i2l (pc := 121) C dX9_awake_121 ?_
            refine r_goto (pc := 122) (tgt := 127) C dX9_awake_122 (by decide) ?_
            refine r_lmul (pc := 127) C dX9_awake_127 ?_
            refine r_topl (fun v18 ev18 => ?_)
            replace h := h v18 ev18
            refine r_lstore (pc := 128) (lv2 := [(10, .long v18), (0, .ref (ad X 85)), (1, .int x1), (2, .int x2), (3, .int x3), (4, .int x4), (5, .long x5), (7, .long x7), (9, .int x9), (12, .int x12)]) C dX9_awake_128 (by decide) rfl ?_
            obtain ⟨v19, ev19⟩ : ∃ z : Int32, z = x12 + 1 := ⟨_, rfl⟩
            replace h := h v19 ev19
            refine r_iinc (pc := 130) (v := v19) (lv2 := [(12, .int v19), (10, .long v18), (0, .ref (ad X 85)), (1, .int x1), (2, .int x2), (3, .int x3), (4, .int x4), (5, .long x5), (7, .long x7), (9, .int x9)]) C 9 dX9_awake_130 rfl (by rw [ev19]; rfl) (by decide) rfl ?_
            refine r_goto (pc := 133) (tgt := 84) C dX9_awake_133 (by decide) ?_
            refine r_sub (lv2 := [(0, .ref (ad X 85)), (1, .int x1), (2, .int x2), (3, .int x3), (4, .int x4), (5, .long x5), (7, .long x7), (9, .int x9), (10, .long v18), (12, .int v19)]) [2, 3, 4, 5, 6, 7, 8, 9, 1, 0] rfl ?_
            exact ih _ _ _ _ _ _ _ _ _ _ h
        · have h := h.2 c12
          refine r_lconst (pc := 103) (v := 1) C dX9_awake_103 (by decide) ?_
          refine r_goto (pc := 104) (tgt := 127) C dX9_awake_104 (by decide) ?_
          refine r_lmul (pc := 127) C dX9_awake_127 ?_
          refine r_topl (fun v20 ev20 => ?_)
          replace h := h v20 ev20
          refine r_lstore (pc := 128) (lv2 := [(10, .long v20), (0, .ref (ad X 85)), (1, .int x1), (2, .int x2), (3, .int x3), (4, .int x4), (5, .long x5), (7, .long x7), (9, .int x9), (12, .int x12)]) C dX9_awake_128 (by decide) rfl ?_
          obtain ⟨v21, ev21⟩ : ∃ z : Int32, z = x12 + 1 := ⟨_, rfl⟩
          replace h := h v21 ev21
          refine r_iinc (pc := 130) (v := v21) (lv2 := [(12, .int v21), (10, .long v20), (0, .ref (ad X 85)), (1, .int x1), (2, .int x2), (3, .int x3), (4, .int x4), (5, .long x5), (7, .long x7), (9, .int x9)]) C 9 dX9_awake_130 rfl (by rw [ev21]; rfl) (by decide) rfl ?_
          refine r_goto (pc := 133) (tgt := 84) C dX9_awake_133 (by decide) ?_
          refine r_sub (lv2 := [(0, .ref (ad X 85)), (1, .int x1), (2, .int x2), (3, .int x3), (4, .int x4), (5, .long x5), (7, .long x7), (9, .int x9), (10, .long v20), (12, .int v21)]) [2, 3, 4, 5, 6, 7, 8, 9, 1, 0] rfl ?_
          exact ih _ _ _ _ _ _ _ _ _ _ h
  have hJ79 : ∀ (R52 : Mem → Int32 → Int32 → Int32 → Int32 → Int64 → Int64 → Int32 → Prop) (hR52 : ∀ (M : Mem) (x1 : Int32) (x2 : Int32) (x3 : Int32) (x4 : Int32) (x5 : Int64) (x7 : Int64) (x9 : Int32), R52 M x1 x2 x3 x4 x5 x7 x9 → WX K X 15 (Ql X Q) M 52 [(0, .ref (ad X 85)), (1, .int x1), (2, .int x2), (3, .int x3), (4, .int x4), (5, .long x5), (7, .long x7), (9, .int x9)] []) (M : Mem) (x1 : Int32) (x2 : Int32) (x3 : Int32) (x4 : Int32) (x5 : Int64) (x7 : Int64) (x9 : Int32) (s0 : Int64), wJ_X9_awake_79  Q R52 M x1 x2 x3 x4 x5 x7 x9 s0 → WX K X 15 (Ql X Q) M 79 [(0, .ref (ad X 85)), (1, .int x1), (2, .int x2), (3, .int x3), (4, .int x4), (5, .long x5), (7, .long x7), (9, .int x9)] [.long s0] := by
    intro R52 hR52 M x1 x2 x3 x4 x5 x7 x9 s0 h
    unfold wJ_X9_awake_79 at h
    refine r_lstore (pc := 79) (lv2 := [(10, .long s0), (0, .ref (ad X 85)), (1, .int x1), (2, .int x2), (3, .int x3), (4, .int x4), (5, .long x5), (7, .long x7), (9, .int x9)]) C dX9_awake_79 (by decide) rfl ?_
    refine r_iconst (pc := 81) (v := 0) C dX9_awake_81 (by decide) ?_
    refine r_istore (pc := 82) (lv2 := [(12, .int 0), (10, .long s0), (0, .ref (ad X 85)), (1, .int x1), (2, .int x2), (3, .int x3), (4, .int x4), (5, .long x5), (7, .long x7), (9, .int x9)]) C dX9_awake_82 (by decide) rfl ?_
    obtain ⟨n1, h⟩ := h
    refine r_sub (lv2 := [(0, .ref (ad X 85)), (1, .int x1), (2, .int x2), (3, .int x3), (4, .int x4), (5, .long x5), (7, .long x7), (9, .int x9), (10, .long s0), (12, .int 0)]) [2, 3, 4, 5, 6, 7, 8, 9, 1, 0] rfl ?_
    exact hL84 _ hR52 _ _ _ _ _ _ _ _ _ _ _ h
  have hL52 : ∀  (n : Nat) (M : Mem) (x1 : Int32) (x2 : Int32) (x3 : Int32) (x4 : Int32) (x5 : Int64) (x7 : Int64) (x9 : Int32), wL_X9_awake_52  Q  n M x1 x2 x3 x4 x5 x7 x9 → WX K X 15 (Ql X Q) M 52 [(0, .ref (ad X 85)), (1, .int x1), (2, .int x2), (3, .int x3), (4, .int x4), (5, .long x5), (7, .long x7), (9, .int x9)] [] := by
    intro  n
    induction n with
    | zero => intro M x1 x2 x3 x4 x5 x7 x9 h; exact absurd h id
    | succ n ih =>
      intro M x1 x2 x3 x4 x5 x7 x9 h
      replace h := wL_X9_awake_52_s h
      unfold wB_X9_awake_52 at h
      refine r_iload (pc := 52) C 7 dX9_awake_52 rfl ?_
      refine r_iconst (pc := 54) (v := 1) C dX9_awake_54 (by decide) ?_
      refine r_aload_n (pc := 55) C 0 dX9_awake_55 rfl ?_
      refine r_get (pc := 56) (k := 85) (j := 0) (Cn := RX9) (T := TX9) (N := 21) C (by decide) (ce85 _) rfl iaX9 (by decide) aw103 rfl rfl dX9_awake_56 ?_
      refine r_iconst (pc := 59) (v := 3) C dX9_awake_59 (by decide) ?_
      refine q_iald (pc := 60) (k := 86) (n := 3528) (j := 3) C (by decide) (ce86 _) (in_lit (by decide)) (by decide) dX9_awake_60 ?_
      refine r_ishl (pc := 61) C dX9_awake_61 ?_
      refine r_icmp_ge (pc := 62) (tgt := 176) C dX9_awake_62 (by decide) (fun c1 => ?_) (fun c1 => ?_)
      · have h := h.1 c1
        refine r_aload_n (pc := 176) C 0 dX9_awake_176 rfl ?_
        refine r_iconst (pc := 177) (v := 0) C dX9_awake_177 (by decide) ?_
        refine r_put (pc := 178) (k := 85) (j := 15) (Cn := RX9) (T := TX9) (N := 21) (host := "") C (by decide) (ce85 _) rfl iaX9 (by decide) (ce85 _) tyX9_ok nmX9 aw515 rfl rfl (tyX9_ok 15 (by decide)) (Nat.le_of_ble_eq_true rfl) dX9_awake_178 ?_
        refine r_topM (fun M2 eM2 => ?_)
        replace h := h M2 eM2
        refine r_lload (pc := 181) C 5 dX9_awake_181 rfl ?_
        refine r_lstore (pc := 183) (lv2 := [(9, .long x5), (0, .ref (ad X 85)), (1, .int x1), (2, .int x2), (3, .int x3), (4, .int x4), (5, .long x5), (7, .long x7)]) C dX9_awake_183 (by decide) rfl ?_
        refine r_lload (pc := 185) C 7 dX9_awake_185 rfl ?_
        refine r_lstore (pc := 187) (lv2 := [(11, .long x7), (9, .long x5), (0, .ref (ad X 85)), (1, .int x1), (2, .int x2), (3, .int x3), (4, .int x4), (5, .long x5), (7, .long x7)]) C dX9_awake_187 (by decide) rfl ?_
        obtain ⟨n3, h⟩ := h
        refine r_sub (lv2 := [(4, .int x4), (5, .long x5), (7, .long x7), (9, .long x5), (11, .long x7)]) [6, 7, 8, 1, 0] rfl ?_
        exact hL189  _ _ _ _ _ _ _ h
      · have h := h.2 c1
        refine r_iload (pc := 65) C 7 dX9_awake_65 rfl ?_
        refine r_iload_n (pc := 67) C 1 dX9_awake_67 rfl ?_
        have hM := c_X9_has X  M x9 x1 _ h
        refine q_s0 (s1 := List.reverse [.int x9, .int x1] ++ []) rfl ?_
        refine r_callSi (pc := 68) (As := [.int x9, .int x1]) (st := []) C 2 hM aw373 aw374 aw375 aw5 yd_X9_has ⟨rfl, rfl⟩ ⟨Nat.le_of_ble_eq_true rfl, Nat.le_of_ble_eq_true rfl⟩ rfl (Nat.le_of_ble_eq_true rfl) dX9_awake_68 (fun r5 M4 h => ?_)
        refine r_if_eq (pc := 71) (tgt := 78) C dX9_awake_71 (by decide) (fun c6 => ?_) (fun c6 => ?_)
        · have h := h.1 c6
          refine r_lconst (pc := 78) (v := 1) C dX9_awake_78 (by decide) ?_
          refine r_sub (lv2 := [(0, .ref (ad X 85)), (1, .int x1), (2, .int x2), (3, .int x3), (4, .int x4), (5, .long x5), (7, .long x7), (9, .int x9)]) [0, 1, 2, 3, 4, 5, 6, 7] rfl ?_
          exact hJ79 _ ih _ _ _ _ _ _ _ _ _ h
        · have h := h.2 c6
          refine r_lconst (pc := 74) (v := 0) C dX9_awake_74 (by decide) ?_
          refine r_goto (pc := 75) (tgt := 79) C dX9_awake_75 (by decide) ?_
          refine r_sub (lv2 := [(0, .ref (ad X 85)), (1, .int x1), (2, .int x2), (3, .int x3), (4, .int x4), (5, .long x5), (7, .long x7), (9, .int x9)]) [0, 1, 2, 3, 4, 5, 6, 7] rfl ?_
          exact hJ79 _ ih _ _ _ _ _ _ _ _ _ h
  unfold w_X9_awake at h
  refine r_aload_n (pc := 0) C 0 dX9_awake_0 rfl ?_
  refine r_iload_n (pc := 1) C 1 dX9_awake_1 rfl ?_
  have hM := c_X9_isPerson X  M x1 _ h
  refine q_s0 (s1 := List.reverse [.int x1] ++ .ref (ad X 85) :: []) rfl ?_
  refine r_callVi (pc := 2) (k := 85) (As := [.int x1]) (st := []) C 1 (by decide) (ce85 _) rfl aw484 aw485 hM aw483 aw486 aw5 yd_X9_isPerson ⟨rfl, rfl⟩ ⟨Nat.le_of_ble_eq_true rfl, Nat.le_of_ble_eq_true rfl⟩ rfl (Nat.le_of_ble_eq_true rfl) dX9_awake_2 (fun r2 M1 h => ?_)
  refine r_if_eq (pc := 5) (tgt := 39) C dX9_awake_5 (by decide) (fun c3 => ?_) (fun c3 => ?_)
  · have h := h.1 c3
    refine r_ldc2 (pc := 39) C aw832 dX9_awake_39 ?_
    exact r_lret (pc := 42) C dX9_awake_42 h
  · have h := h.2 c3
    refine r_aload_n (pc := 8) C 0 dX9_awake_8 rfl ?_
    refine r_iload_n (pc := 9) C 2 dX9_awake_9 rfl ?_
    have hM := c_X9_isDoor X  M1 x2 _ h
    refine q_s0 (s1 := List.reverse [.int x2] ++ .ref (ad X 85) :: []) rfl ?_
    refine r_callVi (pc := 10) (k := 85) (As := [.int x2]) (st := []) C 1 (by decide) (ce85 _) rfl aw488 aw489 hM aw487 aw490 aw5 yd_X9_isDoor ⟨rfl, rfl⟩ ⟨Nat.le_of_ble_eq_true rfl, Nat.le_of_ble_eq_true rfl⟩ rfl (Nat.le_of_ble_eq_true rfl) dX9_awake_10 (fun r5 M4 h => ?_)
    refine r_if_eq (pc := 13) (tgt := 39) C dX9_awake_13 (by decide) (fun c6 => ?_) (fun c6 => ?_)
    · have h := h.1 c6
      refine r_ldc2 (pc := 39) C aw832 dX9_awake_39 ?_
      exact r_lret (pc := 42) C dX9_awake_42 h
    · have h := h.2 c6
      refine r_iload_n (pc := 16) C 3 dX9_awake_16 rfl ?_
      refine r_i2l (pc := 17) C dX9_awake_17 ?_
      refine r_lconst (pc := 18) (v := 0) C dX9_awake_18 (by decide) ?_
      refine r_ldc2 (pc := 19) C aw831 dX9_awake_19 ?_
      have hM := c_X9_in X  M4 (Int32.toInt64 x3) 0 10 _ h
      refine q_s0 (s1 := List.reverse [.long (Int32.toInt64 x3), .long 0, .long 10] ++ []) rfl ?_
      refine r_callSi (pc := 22) (As := [.long (Int32.toInt64 x3), .long 0, .long 10]) (st := []) C 3 hM aw147 aw148 aw149 aw5 yd_X9_in ⟨rfl, rfl⟩ ⟨Nat.le_of_ble_eq_true rfl, Nat.le_of_ble_eq_true rfl⟩ rfl (Nat.le_of_ble_eq_true rfl) dX9_awake_22 (fun r8 M7 h => ?_)
      refine r_if_eq (pc := 25) (tgt := 39) C dX9_awake_25 (by decide) (fun c9 => ?_) (fun c9 => ?_)
      · have h := h.1 c9
        refine r_ldc2 (pc := 39) C aw832 dX9_awake_39 ?_
        exact r_lret (pc := 42) C dX9_awake_42 h
      · have h := h.2 c9
        refine r_iload (pc := 28) C 4 dX9_awake_28 rfl ?_
        refine r_i2l (pc := 30) C dX9_awake_30 ?_
        refine r_lconst (pc := 31) (v := 0) C dX9_awake_31 (by decide) ?_
        refine r_lconst (pc := 32) (v := 1) C dX9_awake_32 (by decide) ?_
        have hM := c_X9_in X  M7 (Int32.toInt64 x4) 0 1 _ h
        refine q_s0 (s1 := List.reverse [.long (Int32.toInt64 x4), .long 0, .long 1] ++ []) rfl ?_
        refine r_callSi (pc := 33) (As := [.long (Int32.toInt64 x4), .long 0, .long 1]) (st := []) C 3 hM aw147 aw148 aw149 aw5 yd_X9_in ⟨rfl, rfl⟩ ⟨Nat.le_of_ble_eq_true rfl, Nat.le_of_ble_eq_true rfl⟩ rfl (Nat.le_of_ble_eq_true rfl) dX9_awake_33 (fun r11 M10 h => ?_)
        refine r_if_ne (pc := 36) (tgt := 43) C dX9_awake_36 (by decide) (fun c12 => ?_) (fun c12 => ?_)
        · have h := h.1 c12
          refine r_lconst (pc := 43) (v := 0) C dX9_awake_43 (by decide) ?_
          refine r_lstore (pc := 44) (lv2 := [(5, .long 0), (0, .ref (ad X 85)), (1, .int x1), (2, .int x2), (3, .int x3), (4, .int x4)]) C dX9_awake_44 (by decide) rfl ?_
          refine r_lconst (pc := 46) (v := 0) C dX9_awake_46 (by decide) ?_
          refine r_lstore (pc := 47) (lv2 := [(7, .long 0), (5, .long 0), (0, .ref (ad X 85)), (1, .int x1), (2, .int x2), (3, .int x3), (4, .int x4)]) C dX9_awake_47 (by decide) rfl ?_
          refine r_iconst (pc := 49) (v := 0) C dX9_awake_49 (by decide) ?_
          refine r_istore (pc := 50) (lv2 := [(9, .int 0), (7, .long 0), (5, .long 0), (0, .ref (ad X 85)), (1, .int x1), (2, .int x2), (3, .int x3), (4, .int x4)]) C dX9_awake_50 (by decide) rfl ?_
          obtain ⟨n13, h⟩ := h
          refine r_sub (lv2 := [(0, .ref (ad X 85)), (1, .int x1), (2, .int x2), (3, .int x3), (4, .int x4), (5, .long 0), (7, .long 0), (9, .int 0)]) [3, 4, 5, 6, 7, 2, 1, 0] rfl ?_
          exact hL52  _ _ _ _ _ _ _ _ _ h
        · have h := h.2 c12
          refine r_ldc2 (pc := 39) C aw832 dX9_awake_39 ?_
          exact r_lret (pc := 42) C dX9_awake_42 h
theorem yd_X9_drawn : yX9_drawn.cls ≠ "java/lang/invoke/MethodHandle" ∧ yX9_drawn.cls ≠ "java/lang/invoke/VarHandle" ∧ (parseMethodDescriptor yX9_drawn.desc).map (fun d => d.parameters.length) = some 3 := by decide +kernel
def wB_X9_drawn_211  (Q : Int32 → Mem → Prop)  (R211 : Mem → Int32 → Int32 → Int32 → Int32 → Prop) (M : Mem) (x3 : Int32) (x6 : Int32) (x7 : Int32) (x8 : Int32) : Prop :=
  (((M 86 3) ≤ x8) → (((¬ x3 = 0) → (Q x7 M)) ∧ ((x3 = 0) → (Q x6 M)))) ∧ ((¬ (M 86 3) ≤ x8) → (∀ v3 : Int32, v3 = (3426 + x8) → (vp_in v3 3528 ∧ (∀ v5 : Int32, v5 = (x7 + (M 86 (Int32.toNatClampNeg v3))) → (∀ v6 : Int32, v6 = x8 + 1 → (R211 M x3 x6 v5 v6))))))
def wL_X9_drawn_211  (Q : Int32 → Mem → Prop)  : Nat → Mem → Int32 → Int32 → Int32 → Int32 → Prop
  | 0 => fun _ _ _ _ _ => False
  | n + 1 => fun M x3 x6 x7 x8 => wB_X9_drawn_211  Q  (wL_X9_drawn_211  Q  n) M x3 x6 x7 x8
theorem wL_X9_drawn_211_s  {Q : Int32 → Mem → Prop}  {n : Nat} {M : Mem} {x3 : Int32} {x6 : Int32} {x7 : Int32} {x8 : Int32} (h : wL_X9_drawn_211  Q  (n + 1) M x3 x6 x7 x8) : wB_X9_drawn_211  Q  (wL_X9_drawn_211  Q  n) M x3 x6 x7 x8 := h
def wJ_X9_drawn_169  (Q : Int32 → Mem → Prop) (R67 : Mem → Int32 → Int32 → Int64 → Int32 → Int32 → Prop) (M : Mem) (x1 : Int32) (x3 : Int32) (x4 : Int64) (x7 : Int32) (s0 : Int32) (s1 : Int32) : Prop :=
  ∀ v1 : Int32, v1 = (s0 + s1) → (((¬ (lg_cmp (x4 - x4 / 4 * 4) 0) = 0) → (∀ v3 : Int32, v3 = ((M 86 3406) + 0) → (∀ M4 : Mem, M4 = ms M 86 3406 v3 → (∀ v5 : Int32, v5 = x7 + 1 → (R67 M4 x1 x3 x4 v1 v5))))) ∧ (((lg_cmp (x4 - x4 / 4 * 4) 0) = 0) → (∀ v6 : Int32, v6 = ((M 86 3406) + 1) → (∀ M7 : Mem, M7 = ms M 86 3406 v6 → (∀ v8 : Int32, v8 = x7 + 1 → (R67 M7 x1 x3 x4 v1 v8))))))
def wJ_X9_drawn_168  (Q : Int32 → Mem → Prop) (R67 : Mem → Int32 → Int32 → Int64 → Int32 → Int32 → Prop) (M : Mem) (x1 : Int32) (x3 : Int32) (x4 : Int64) (x7 : Int32) (s0 : Int32) : Prop :=
  wJ_X9_drawn_169  Q R67 M x1 x3 x4 x7 s0 0
def wJ_X9_drawn_141  (Q : Int32 → Mem → Prop) (R67 : Mem → Int32 → Int32 → Int64 → Int32 → Int32 → Prop) (M : Mem) (x1 : Int32) (x3 : Int32) (x4 : Int64) (x6 : Int32) (x7 : Int32) (x8 : Int32) (x9 : Int32) (s0 : Int32) : Prop :=
  ((s0 = 0) → (wJ_X9_drawn_168  Q R67 M x1 x3 x4 x7 x6)) ∧ ((¬ s0 = 0) → (w_X9_knocks  M 3402 x8 x9 (fun r3 M2 => ((r3 = 0) → (wJ_X9_drawn_168  Q R67 M2 x1 x3 x4 x7 x6)) ∧ ((¬ r3 = 0) → (wJ_X9_drawn_169  Q R67 M2 x1 x3 x4 x7 x6 1)))))
def wB_X9_drawn_67  (Q : Int32 → Mem → Prop)  (R67 : Mem → Int32 → Int32 → Int64 → Int32 → Int32 → Prop) (M : Mem) (x1 : Int32) (x3 : Int32) (x4 : Int64) (x6 : Int32) (x7 : Int32) : Prop :=
  ((x1 ≤ x7) → (∃ n2 : Nat, wL_X9_drawn_211  Q  n2 M x3 x6 0 0)) ∧ ((¬ x1 ≤ x7) → (∀ v3 : Int64, v3 = ((x4 * 16807) - (x4 * 16807) / 2147483647 * 2147483647) → ((¬ (Int32.toInt64 (M 86 3)) = 0) ∧ (∀ v5 : Int32, v5 = (Int64.toInt32 (v3 - v3 / (Int32.toInt64 (M 86 3)) * (Int32.toInt64 (M 86 3)))) → ((¬ (Int32.toInt64 (M 86 2)) = 0) ∧ (∀ v7 : Int32, v7 = (Int64.toInt32 (v3 - v3 / (Int32.toInt64 (M 86 2)) * (Int32.toInt64 (M 86 2)))) → (∀ v8 : Int32, v8 = (3426 + v5) → (vp_in v8 3528 ∧ (w_X9_behind  M 3402 v7 (M 86 (Int32.toNatClampNeg v8)) (fun r11 M10 => ((r11 = (-1000000)) → (wJ_X9_drawn_141  Q R67 M10 x1 x3 v3 x6 x7 v5 v7 0)) ∧ ((¬ r11 = (-1000000)) → (wJ_X9_drawn_141  Q R67 M10 x1 x3 v3 x6 x7 v5 v7 1))))))))))))
def wL_X9_drawn_67  (Q : Int32 → Mem → Prop)  : Nat → Mem → Int32 → Int32 → Int64 → Int32 → Int32 → Prop
  | 0 => fun _ _ _ _ _ _ => False
  | n + 1 => fun M x1 x3 x4 x6 x7 => wB_X9_drawn_67  Q  (wL_X9_drawn_67  Q  n) M x1 x3 x4 x6 x7
theorem wL_X9_drawn_67_s  {Q : Int32 → Mem → Prop}  {n : Nat} {M : Mem} {x1 : Int32} {x3 : Int32} {x4 : Int64} {x6 : Int32} {x7 : Int32} (h : wL_X9_drawn_67  Q  (n + 1) M x1 x3 x4 x6 x7) : wB_X9_drawn_67  Q  (wL_X9_drawn_67  Q  n) M x1 x3 x4 x6 x7 := h
def w_X9_drawn  (M : Mem) (x1 : Int32) (x2 : Int32) (x3 : Int32) (Q : Int32 → Mem → Prop) : Prop :=
  ((¬ (M 86 3) = 0) → (w_X9_in  M (Int32.toInt64 x1) 0 60 (fun r3 M2 => ((r3 = 0) → (Q (-1000001) M2)) ∧ ((¬ r3 = 0) → (w_X9_in  M2 (Int32.toInt64 x2) 1 999999 (fun r6 M5 => ((r6 = 0) → (Q (-1000001) M5)) ∧ ((¬ r6 = 0) → (w_X9_in  M5 (Int32.toInt64 x3) 0 1 (fun r9 M8 => ((¬ r9 = 0) → (w_X9_copyTown  M8 0 3402 (fun M11 => ∀ v13 : Int64, v13 = (Int32.toInt64 x2) → (∃ n14 : Nat, wL_X9_drawn_67  Q  n14 M11 x1 x3 v13 0 0)))) ∧ ((r9 = 0) → (Q (-1000001) M8))))))))))) ∧ (((M 86 3) = 0) → (Q (-1000002) M))
abbrev rm_X9_drawn : Room := { frames := 21, cells := 0, slots := 0, locals := 420 }
set_option maxHeartbeats 4000000 in
set_option maxRecDepth 100000 in
theorem c_X9_drawn (X : Cx)  (M : Mem) (x1 : Int32) (x2 : Int32) (x3 : Int32) (Q : Int32 → Mem → Prop) (h : w_X9_drawn  M x1 x2 x3 Q) : Ct yX9_drawn cX9_drawn 11 (some .int) rm_X9_drawn X M [.ref (ad X 85), .int x1, .int x2, .int x3] (Qi X Q) := by
  refine ct_of (own := RX9) (lv := [(0, .ref (ad X 85)), (1, .int x1), (2, .int x2), (3, .int x3)]) rfl (by decide) (Nat.le_of_ble_eq_true rfl) rfl ?_
  intro K C
  have hL211 : ∀  (n : Nat) (M : Mem) (x3 : Int32) (x6 : Int32) (x7 : Int32) (x8 : Int32), wL_X9_drawn_211  Q  n M x3 x6 x7 x8 → WX K X 11 (Qi X Q) M 211 [(0, .ref (ad X 85)), (3, .int x3), (6, .int x6), (7, .int x7), (8, .int x8)] [] := by
    intro  n
    induction n with
    | zero => intro M x3 x6 x7 x8 h; exact absurd h id
    | succ n ih =>
      intro M x3 x6 x7 x8 h
      replace h := wL_X9_drawn_211_s h
      unfold wB_X9_drawn_211 at h
      refine r_iload (pc := 211) C 4 dX9_drawn_211 rfl ?_
      refine r_aload_n (pc := 213) C 0 dX9_drawn_213 rfl ?_
      refine r_get (pc := 214) (k := 85) (j := 0) (Cn := RX9) (T := TX9) (N := 21) C (by decide) (ce85 _) rfl iaX9 (by decide) aw103 rfl rfl dX9_drawn_214 ?_
      refine r_iconst (pc := 217) (v := 3) C dX9_drawn_217 (by decide) ?_
      refine q_iald (pc := 218) (k := 86) (n := 3528) (j := 3) C (by decide) (ce86 _) (in_lit (by decide)) (by decide) dX9_drawn_218 ?_
      refine r_icmp_ge (pc := 219) (tgt := 244) C dX9_drawn_219 (by decide) (fun c1 => ?_) (fun c1 => ?_)
      · have h := h.1 c1
        refine r_iload_n (pc := 244) C 1 dX9_drawn_244 rfl ?_
        refine r_if_ne (pc := 245) (tgt := 253) C dX9_drawn_245 (by decide) (fun c2 => ?_) (fun c2 => ?_)
        · have h := h.1 c2
          refine r_iload (pc := 253) C 3 dX9_drawn_253 rfl ?_
          exact r_iret (pc := 255) C dX9_drawn_255 h
        · have h := h.2 c2
          refine r_iload (pc := 248) C 2 dX9_drawn_248 rfl ?_
          refine r_goto (pc := 250) (tgt := 255) C dX9_drawn_250 (by decide) ?_
          exact r_iret (pc := 255) C dX9_drawn_255 h
      · have h := h.2 c1
        refine r_iload (pc := 222) C 3 dX9_drawn_222 rfl ?_
        refine r_aload_n (pc := 224) C 0 dX9_drawn_224 rfl ?_
        refine r_get (pc := 225) (k := 85) (j := 0) (Cn := RX9) (T := TX9) (N := 21) C (by decide) (ce85 _) rfl iaX9 (by decide) aw103 rfl rfl dX9_drawn_225 ?_
        refine r_sipush (pc := 228) (v := 3426) C dX9_drawn_228 (by decide) ?_
        refine r_iload (pc := 231) C 4 dX9_drawn_231 rfl ?_
        refine r_iadd (pc := 233) C dX9_drawn_233 ?_
        refine r_topi (fun v3 ev3 => ?_)
        replace h := h v3 ev3
        obtain ⟨g4, h⟩ := h
        refine q_iald (pc := 234) (k := 86) (n := 3528) (j := (Int32.toNatClampNeg v3)) C (by decide) (ce86 _) g4 rfl dX9_drawn_234 ?_
        refine r_iadd (pc := 235) C dX9_drawn_235 ?_
        refine r_topi (fun v5 ev5 => ?_)
        replace h := h v5 ev5
        refine r_istore (pc := 236) (lv2 := [(7, .int v5), (0, .ref (ad X 85)), (3, .int x3), (6, .int x6), (8, .int x8)]) C dX9_drawn_236 (by decide) rfl ?_
        obtain ⟨v6, ev6⟩ : ∃ z : Int32, z = x8 + 1 := ⟨_, rfl⟩
        replace h := h v6 ev6
        refine r_iinc (pc := 238) (v := v6) (lv2 := [(8, .int v6), (7, .int v5), (0, .ref (ad X 85)), (3, .int x3), (6, .int x6)]) C 4 dX9_drawn_238 rfl (by rw [ev6]; rfl) (by decide) rfl ?_
        refine r_goto (pc := 241) (tgt := 211) C dX9_drawn_241 (by decide) ?_
        refine r_sub (lv2 := [(0, .ref (ad X 85)), (3, .int x3), (6, .int x6), (7, .int v5), (8, .int v6)]) [2, 3, 4, 1, 0] rfl ?_
        exact ih _ _ _ _ _ h
  have hJ169 : ∀ (R67 : Mem → Int32 → Int32 → Int64 → Int32 → Int32 → Prop) (hR67 : ∀ (M : Mem) (x1 : Int32) (x3 : Int32) (x4 : Int64) (x6 : Int32) (x7 : Int32), R67 M x1 x3 x4 x6 x7 → WX K X 11 (Qi X Q) M 67 [(0, .ref (ad X 85)), (1, .int x1), (3, .int x3), (4, .long x4), (6, .int x6), (7, .int x7)] []) (M : Mem) (x1 : Int32) (x3 : Int32) (x4 : Int64) (x7 : Int32) (s0 : Int32) (s1 : Int32), wJ_X9_drawn_169  Q R67 M x1 x3 x4 x7 s0 s1 → WX K X 11 (Qi X Q) M 169 [(0, .ref (ad X 85)), (1, .int x1), (3, .int x3), (4, .long x4), (7, .int x7)] [.int s1, .int s0] := by
    intro R67 hR67 M x1 x3 x4 x7 s0 s1 h
    unfold wJ_X9_drawn_169 at h
    refine r_iadd (pc := 169) C dX9_drawn_169 ?_
    refine r_topi (fun v1 ev1 => ?_)
    replace h := h v1 ev1
    refine r_istore (pc := 170) (lv2 := [(6, .int v1), (0, .ref (ad X 85)), (1, .int x1), (3, .int x3), (4, .long x4), (7, .int x7)]) C dX9_drawn_170 (by decide) rfl ?_
    refine r_aload_n (pc := 172) C 1 dX9_drawn_172 rfl ?_
    refine r_get (pc := 173) (k := 85) (j := 0) (Cn := RX9) (T := TX9) (N := 21) C (by decide) (ce85 _) rfl iaX9 (by decide) aw103 rfl rfl dX9_drawn_173 ?_
    refine r_sipush (pc := 176) (v := 3406) C dX9_drawn_176 (by decide) ?_
    refine r_dup2 (pc := 179) C dX9_drawn_179 rfl rfl ?_
    refine q_iald (pc := 180) (k := 86) (n := 3528) (j := 3406) C (by decide) (ce86 _) (in_lit (by decide)) (by decide) dX9_drawn_180 ?_
    refine r_lload (pc := 181) C 4 dX9_drawn_181 rfl ?_
    refine r_ldc2 (pc := 183) C aw852 dX9_drawn_183 ?_
    refine r_lrem (pc := 186) C dX9_drawn_186 (by decide) ?_
    refine r_lconst (pc := 187) (v := 0) C dX9_drawn_187 (by decide) ?_
    refine r_lcmp (pc := 188) C dX9_drawn_188 ?_
    refine r_if_ne (pc := 189) (tgt := 196) C dX9_drawn_189 (by decide) (fun c2 => ?_) (fun c2 => ?_)
    · have h := h.1 c2
      refine r_iconst (pc := 196) (v := 0) C dX9_drawn_196 (by decide) ?_
      refine r_iadd (pc := 197) C dX9_drawn_197 ?_
      refine r_topi (fun v3 ev3 => ?_)
      replace h := h v3 ev3
      refine q_iast (pc := 198) (k := 86) (n := 3528) (j := 3406) C (by decide) (ce86) (in_lit (by decide)) (by decide) dX9_drawn_198 ?_
      refine r_topM (fun M4 eM4 => ?_)
      replace h := h M4 eM4
      obtain ⟨v5, ev5⟩ : ∃ z : Int32, z = x7 + 1 := ⟨_, rfl⟩
      replace h := h v5 ev5
      refine r_iinc (pc := 199) (v := v5) (lv2 := [(7, .int v5), (6, .int v1), (0, .ref (ad X 85)), (1, .int x1), (3, .int x3), (4, .long x4)]) C 5 dX9_drawn_199 rfl (by rw [ev5]; rfl) (by decide) rfl ?_
      refine r_goto (pc := 202) (tgt := 67) C dX9_drawn_202 (by decide) ?_
      refine r_sub (lv2 := [(0, .ref (ad X 85)), (1, .int x1), (3, .int x3), (4, .long x4), (6, .int v1), (7, .int v5)]) [2, 3, 4, 5, 1, 0] rfl ?_
      exact hR67 _ _ _ _ _ _ h
    · have h := h.2 c2
      refine r_iconst (pc := 192) (v := 1) C dX9_drawn_192 (by decide) ?_
      refine r_goto (pc := 193) (tgt := 197) C dX9_drawn_193 (by decide) ?_
      refine r_iadd (pc := 197) C dX9_drawn_197 ?_
      refine r_topi (fun v6 ev6 => ?_)
      replace h := h v6 ev6
      refine q_iast (pc := 198) (k := 86) (n := 3528) (j := 3406) C (by decide) (ce86) (in_lit (by decide)) (by decide) dX9_drawn_198 ?_
      refine r_topM (fun M7 eM7 => ?_)
      replace h := h M7 eM7
      obtain ⟨v8, ev8⟩ : ∃ z : Int32, z = x7 + 1 := ⟨_, rfl⟩
      replace h := h v8 ev8
      refine r_iinc (pc := 199) (v := v8) (lv2 := [(7, .int v8), (6, .int v1), (0, .ref (ad X 85)), (1, .int x1), (3, .int x3), (4, .long x4)]) C 5 dX9_drawn_199 rfl (by rw [ev8]; rfl) (by decide) rfl ?_
      refine r_goto (pc := 202) (tgt := 67) C dX9_drawn_202 (by decide) ?_
      refine r_sub (lv2 := [(0, .ref (ad X 85)), (1, .int x1), (3, .int x3), (4, .long x4), (6, .int v1), (7, .int v8)]) [2, 3, 4, 5, 1, 0] rfl ?_
      exact hR67 _ _ _ _ _ _ h
  have hJ168 : ∀ (R67 : Mem → Int32 → Int32 → Int64 → Int32 → Int32 → Prop) (hR67 : ∀ (M : Mem) (x1 : Int32) (x3 : Int32) (x4 : Int64) (x6 : Int32) (x7 : Int32), R67 M x1 x3 x4 x6 x7 → WX K X 11 (Qi X Q) M 67 [(0, .ref (ad X 85)), (1, .int x1), (3, .int x3), (4, .long x4), (6, .int x6), (7, .int x7)] []) (M : Mem) (x1 : Int32) (x3 : Int32) (x4 : Int64) (x7 : Int32) (s0 : Int32), wJ_X9_drawn_168  Q R67 M x1 x3 x4 x7 s0 → WX K X 11 (Qi X Q) M 168 [(0, .ref (ad X 85)), (1, .int x1), (3, .int x3), (4, .long x4), (7, .int x7)] [.int s0] := by
    intro R67 hR67 M x1 x3 x4 x7 s0 h
    unfold wJ_X9_drawn_168 at h
    refine r_iconst (pc := 168) (v := 0) C dX9_drawn_168 (by decide) ?_
    refine r_sub (lv2 := [(0, .ref (ad X 85)), (1, .int x1), (3, .int x3), (4, .long x4), (7, .int x7)]) [0, 1, 2, 3, 4] rfl ?_
    exact hJ169 _ hR67 _ _ _ _ _ _ _ h
  have hJ141 : ∀ (R67 : Mem → Int32 → Int32 → Int64 → Int32 → Int32 → Prop) (hR67 : ∀ (M : Mem) (x1 : Int32) (x3 : Int32) (x4 : Int64) (x6 : Int32) (x7 : Int32), R67 M x1 x3 x4 x6 x7 → WX K X 11 (Qi X Q) M 67 [(0, .ref (ad X 85)), (1, .int x1), (3, .int x3), (4, .long x4), (6, .int x6), (7, .int x7)] []) (M : Mem) (x1 : Int32) (x3 : Int32) (x4 : Int64) (x6 : Int32) (x7 : Int32) (x8 : Int32) (x9 : Int32) (s0 : Int32), wJ_X9_drawn_141  Q R67 M x1 x3 x4 x6 x7 x8 x9 s0 → WX K X 11 (Qi X Q) M 141 [(0, .ref (ad X 85)), (1, .int x1), (3, .int x3), (4, .long x4), (6, .int x6), (7, .int x7), (8, .int x8), (9, .int x9)] [.int s0] := by
    intro R67 hR67 M x1 x3 x4 x6 x7 x8 x9 s0 h
    unfold wJ_X9_drawn_141 at h
    refine r_istore (pc := 141) (lv2 := [(10, .int s0), (0, .ref (ad X 85)), (1, .int x1), (3, .int x3), (4, .long x4), (6, .int x6), (7, .int x7), (8, .int x8), (9, .int x9)]) C dX9_drawn_141 (by decide) rfl ?_
    refine r_iload (pc := 143) C 5 dX9_drawn_143 rfl ?_
    refine r_iload (pc := 145) C 0 dX9_drawn_145 rfl ?_
    refine r_if_eq (pc := 147) (tgt := 168) C dX9_drawn_147 (by decide) (fun c1 => ?_) (fun c1 => ?_)
    · have h := h.1 c1
      refine r_sub (lv2 := [(0, .ref (ad X 85)), (1, .int x1), (3, .int x3), (4, .long x4), (7, .int x7)]) [1, 2, 3, 4, 6] rfl ?_
      exact hJ168 _ hR67 _ _ _ _ _ _ h
    · have h := h.2 c1
      refine r_aload_n (pc := 150) C 1 dX9_drawn_150 rfl ?_
      refine r_sipush (pc := 151) (v := 3402) C dX9_drawn_151 (by decide) ?_
      refine r_iload (pc := 154) C 7 dX9_drawn_154 rfl ?_
      refine r_iload (pc := 156) C 8 dX9_drawn_156 rfl ?_
      have hM := c_X9_knocks X  M 3402 x8 x9 _ h
      refine q_s0 (s1 := List.reverse [.int 3402, .int x8, .int x9] ++ .ref (ad X 85) :: [.int x6]) rfl ?_
      refine r_callVi (pc := 158) (k := 85) (As := [.int 3402, .int x8, .int x9]) (st := [.int x6]) C 3 (by decide) (ce85 _) rfl aw504 aw505 hM aw503 aw506 aw5 yd_X9_knocks ⟨rfl, rfl⟩ ⟨Nat.le_of_ble_eq_true rfl, Nat.le_of_ble_eq_true rfl⟩ rfl (Nat.le_of_ble_eq_true rfl) dX9_drawn_158 (fun r3 M2 h => ?_)
      refine r_if_eq (pc := 161) (tgt := 168) C dX9_drawn_161 (by decide) (fun c4 => ?_) (fun c4 => ?_)
      · have h := h.1 c4
        refine r_sub (lv2 := [(0, .ref (ad X 85)), (1, .int x1), (3, .int x3), (4, .long x4), (7, .int x7)]) [1, 2, 3, 4, 6] rfl ?_
        exact hJ168 _ hR67 _ _ _ _ _ _ h
      · have h := h.2 c4
        refine r_iconst (pc := 164) (v := 1) C dX9_drawn_164 (by decide) ?_
        refine r_goto (pc := 165) (tgt := 169) C dX9_drawn_165 (by decide) ?_
        refine r_sub (lv2 := [(0, .ref (ad X 85)), (1, .int x1), (3, .int x3), (4, .long x4), (7, .int x7)]) [1, 2, 3, 4, 6] rfl ?_
        exact hJ169 _ hR67 _ _ _ _ _ _ _ h
  have hL67 : ∀  (n : Nat) (M : Mem) (x1 : Int32) (x3 : Int32) (x4 : Int64) (x6 : Int32) (x7 : Int32), wL_X9_drawn_67  Q  n M x1 x3 x4 x6 x7 → WX K X 11 (Qi X Q) M 67 [(0, .ref (ad X 85)), (1, .int x1), (3, .int x3), (4, .long x4), (6, .int x6), (7, .int x7)] [] := by
    intro  n
    induction n with
    | zero => intro M x1 x3 x4 x6 x7 h; exact absurd h id
    | succ n ih =>
      intro M x1 x3 x4 x6 x7 h
      replace h := wL_X9_drawn_67_s h
      unfold wB_X9_drawn_67 at h
      refine r_iload (pc := 67) C 5 dX9_drawn_67 rfl ?_
      refine r_iload_n (pc := 69) C 1 dX9_drawn_69 rfl ?_
      refine r_icmp_ge (pc := 70) (tgt := 205) C dX9_drawn_70 (by decide) (fun c1 => ?_) (fun c1 => ?_)
      · have h := h.1 c1
        refine r_iconst (pc := 205) (v := 0) C dX9_drawn_205 (by decide) ?_
        refine r_istore (pc := 206) (lv2 := [(7, .int 0), (0, .ref (ad X 85)), (1, .int x1), (3, .int x3), (4, .long x4), (6, .int x6)]) C dX9_drawn_206 (by decide) rfl ?_
        refine r_iconst (pc := 208) (v := 0) C dX9_drawn_208 (by decide) ?_
        refine r_istore (pc := 209) (lv2 := [(8, .int 0), (7, .int 0), (0, .ref (ad X 85)), (1, .int x1), (3, .int x3), (4, .long x4), (6, .int x6)]) C dX9_drawn_209 (by decide) rfl ?_
        obtain ⟨n2, h⟩ := h
        refine r_sub (lv2 := [(0, .ref (ad X 85)), (3, .int x3), (6, .int x6), (7, .int 0), (8, .int 0)]) [2, 4, 6, 1, 0] rfl ?_
        exact hL211  _ _ _ _ _ _ h
      · have h := h.2 c1
        refine r_lload (pc := 73) C 3 dX9_drawn_73 rfl ?_
        refine r_ldc2 (pc := 75) C aw850 dX9_drawn_75 ?_
        refine r_lmul (pc := 78) C dX9_drawn_78 ?_
        refine r_ldc2 (pc := 79) C aw851 dX9_drawn_79 ?_
        refine r_lrem (pc := 82) C dX9_drawn_82 (by decide) ?_
        refine r_topl (fun v3 ev3 => ?_)
        replace h := h v3 ev3
        refine r_lstore (pc := 83) (lv2 := [(4, .long v3), (0, .ref (ad X 85)), (1, .int x1), (3, .int x3), (6, .int x6), (7, .int x7)]) C dX9_drawn_83 (by decide) rfl ?_
        refine r_lload (pc := 85) C 0 dX9_drawn_85 rfl ?_
        refine r_aload_n (pc := 87) C 1 dX9_drawn_87 rfl ?_
        refine r_get (pc := 88) (k := 85) (j := 0) (Cn := RX9) (T := TX9) (N := 21) C (by decide) (ce85 _) rfl iaX9 (by decide) aw103 rfl rfl dX9_drawn_88 ?_
        refine r_iconst (pc := 91) (v := 3) C dX9_drawn_91 (by decide) ?_
        refine q_iald (pc := 92) (k := 86) (n := 3528) (j := 3) C (by decide) (ce86 _) (in_lit (by decide)) (by decide) dX9_drawn_92 ?_
        refine r_i2l (pc := 93) C dX9_drawn_93 ?_
        obtain ⟨g4, h⟩ := h
        refine r_lrem (pc := 94) C dX9_drawn_94 g4 ?_
        refine r_l2i (pc := 95) C dX9_drawn_95 ?_
        refine r_topi (fun v5 ev5 => ?_)
        replace h := h v5 ev5
        refine r_istore (pc := 96) (lv2 := [(8, .int v5), (4, .long v3), (0, .ref (ad X 85)), (1, .int x1), (3, .int x3), (6, .int x6), (7, .int x7)]) C dX9_drawn_96 (by decide) rfl ?_
        refine r_lload (pc := 98) C 1 dX9_drawn_98 rfl ?_
        refine r_aload_n (pc := 100) C 2 dX9_drawn_100 rfl ?_
        refine r_get (pc := 101) (k := 85) (j := 0) (Cn := RX9) (T := TX9) (N := 21) C (by decide) (ce85 _) rfl iaX9 (by decide) aw103 rfl rfl dX9_drawn_101 ?_
        refine r_iconst (pc := 104) (v := 2) C dX9_drawn_104 (by decide) ?_
        refine q_iald (pc := 105) (k := 86) (n := 3528) (j := 2) C (by decide) (ce86 _) (in_lit (by decide)) (by decide) dX9_drawn_105 ?_
        refine r_i2l (pc := 106) C dX9_drawn_106 ?_
        obtain ⟨g6, h⟩ := h
        refine r_lrem (pc := 107) C dX9_drawn_107 g6 ?_
        refine r_l2i (pc := 108) C dX9_drawn_108 ?_
        refine r_topi (fun v7 ev7 => ?_)
        replace h := h v7 ev7
        refine r_istore (pc := 109) (lv2 := [(9, .int v7), (8, .int v5), (4, .long v3), (0, .ref (ad X 85)), (1, .int x1), (3, .int x3), (6, .int x6), (7, .int x7)]) C dX9_drawn_109 (by decide) rfl ?_
        refine r_aload_n (pc := 111) C 3 dX9_drawn_111 rfl ?_
        refine r_sipush (pc := 112) (v := 3402) C dX9_drawn_112 (by decide) ?_
        refine r_iload (pc := 115) C 0 dX9_drawn_115 rfl ?_
        refine r_aload_n (pc := 117) C 3 dX9_drawn_117 rfl ?_
        refine r_get (pc := 118) (k := 85) (j := 0) (Cn := RX9) (T := TX9) (N := 21) C (by decide) (ce85 _) rfl iaX9 (by decide) aw103 rfl rfl dX9_drawn_118 ?_
        refine r_sipush (pc := 121) (v := 3426) C dX9_drawn_121 (by decide) ?_
        refine r_iload (pc := 124) C 1 dX9_drawn_124 rfl ?_
        refine r_iadd (pc := 126) C dX9_drawn_126 ?_
        refine r_topi (fun v8 ev8 => ?_)
        replace h := h v8 ev8
        obtain ⟨g9, h⟩ := h
        refine q_iald (pc := 127) (k := 86) (n := 3528) (j := (Int32.toNatClampNeg v8)) C (by decide) (ce86 _) g9 rfl dX9_drawn_127 ?_
        have hM := c_X9_behind X  M 3402 v7 (M 86 (Int32.toNatClampNeg v8)) _ h
        refine q_s0 (s1 := List.reverse [.int 3402, .int v7, .int (M 86 (Int32.toNatClampNeg v8))] ++ .ref (ad X 85) :: []) rfl ?_
        refine r_callVi (pc := 128) (k := 85) (As := [.int 3402, .int v7, .int (M 86 (Int32.toNatClampNeg v8))]) (st := []) C 3 (by decide) (ce85 _) rfl aw492 aw493 hM aw491 aw494 aw5 yd_X9_behind ⟨rfl, rfl⟩ ⟨Nat.le_of_ble_eq_true rfl, Nat.le_of_ble_eq_true rfl⟩ rfl (Nat.le_of_ble_eq_true rfl) dX9_drawn_128 (fun r11 M10 h => ?_)
        refine r_ldc (pc := 131) C aw330 dX9_drawn_131 ?_
        refine r_icmp_eq (pc := 133) (tgt := 140) C dX9_drawn_133 (by decide) (fun c12 => ?_) (fun c12 => ?_)
        · have h := h.1 c12
          refine r_iconst (pc := 140) (v := 0) C dX9_drawn_140 (by decide) ?_
          refine r_sub (lv2 := [(0, .ref (ad X 85)), (1, .int x1), (3, .int x3), (4, .long v3), (6, .int x6), (7, .int x7), (8, .int v5), (9, .int v7)]) [3, 4, 5, 2, 6, 7, 1, 0] rfl ?_
          exact hJ141 _ ih _ _ _ _ _ _ _ _ _ h
        · have h := h.2 c12
          refine r_iconst (pc := 136) (v := 1) C dX9_drawn_136 (by decide) ?_
          refine r_goto (pc := 137) (tgt := 141) C dX9_drawn_137 (by decide) ?_
          refine r_sub (lv2 := [(0, .ref (ad X 85)), (1, .int x1), (3, .int x3), (4, .long v3), (6, .int x6), (7, .int x7), (8, .int v5), (9, .int v7)]) [3, 4, 5, 2, 6, 7, 1, 0] rfl ?_
          exact hJ141 _ ih _ _ _ _ _ _ _ _ _ h
  unfold w_X9_drawn at h
  refine r_aload_n (pc := 0) C 0 dX9_drawn_0 rfl ?_
  refine r_get (pc := 1) (k := 85) (j := 0) (Cn := RX9) (T := TX9) (N := 21) C (by decide) (ce85 _) rfl iaX9 (by decide) aw103 rfl rfl dX9_drawn_1 ?_
  refine r_iconst (pc := 4) (v := 3) C dX9_drawn_4 (by decide) ?_
  refine q_iald (pc := 5) (k := 86) (n := 3528) (j := 3) C (by decide) (ce86 _) (in_lit (by decide)) (by decide) dX9_drawn_5 ?_
  refine r_if_ne (pc := 6) (tgt := 12) C dX9_drawn_6 (by decide) (fun c1 => ?_) (fun c1 => ?_)
  · have h := h.1 c1
    refine r_iload_n (pc := 12) C 1 dX9_drawn_12 rfl ?_
    refine r_i2l (pc := 13) C dX9_drawn_13 ?_
    refine r_lconst (pc := 14) (v := 0) C dX9_drawn_14 (by decide) ?_
    refine r_ldc2 (pc := 15) C aw848 dX9_drawn_15 ?_
    have hM := c_X9_in X  M (Int32.toInt64 x1) 0 60 _ h
    refine q_s0 (s1 := List.reverse [.long (Int32.toInt64 x1), .long 0, .long 60] ++ []) rfl ?_
    refine r_callSi (pc := 18) (As := [.long (Int32.toInt64 x1), .long 0, .long 60]) (st := []) C 3 hM aw147 aw148 aw149 aw5 yd_X9_in ⟨rfl, rfl⟩ ⟨Nat.le_of_ble_eq_true rfl, Nat.le_of_ble_eq_true rfl⟩ rfl (Nat.le_of_ble_eq_true rfl) dX9_drawn_18 (fun r3 M2 h => ?_)
    refine r_if_eq (pc := 21) (tgt := 46) C dX9_drawn_21 (by decide) (fun c4 => ?_) (fun c4 => ?_)
    · have h := h.1 c4
      refine r_ldc (pc := 46) C aw142 dX9_drawn_46 ?_
      exact r_iret (pc := 48) C dX9_drawn_48 h
    · have h := h.2 c4
      refine r_iload_n (pc := 24) C 2 dX9_drawn_24 rfl ?_
      refine r_i2l (pc := 25) C dX9_drawn_25 ?_
      refine r_lconst (pc := 26) (v := 1) C dX9_drawn_26 (by decide) ?_
      refine r_ldc2 (pc := 27) C aw849 dX9_drawn_27 ?_
      have hM := c_X9_in X  M2 (Int32.toInt64 x2) 1 999999 _ h
      refine q_s0 (s1 := List.reverse [.long (Int32.toInt64 x2), .long 1, .long 999999] ++ []) rfl ?_
      refine r_callSi (pc := 30) (As := [.long (Int32.toInt64 x2), .long 1, .long 999999]) (st := []) C 3 hM aw147 aw148 aw149 aw5 yd_X9_in ⟨rfl, rfl⟩ ⟨Nat.le_of_ble_eq_true rfl, Nat.le_of_ble_eq_true rfl⟩ rfl (Nat.le_of_ble_eq_true rfl) dX9_drawn_30 (fun r6 M5 h => ?_)
      refine r_if_eq (pc := 33) (tgt := 46) C dX9_drawn_33 (by decide) (fun c7 => ?_) (fun c7 => ?_)
      · have h := h.1 c7
        refine r_ldc (pc := 46) C aw142 dX9_drawn_46 ?_
        exact r_iret (pc := 48) C dX9_drawn_48 h
      · have h := h.2 c7
        refine r_iload_n (pc := 36) C 3 dX9_drawn_36 rfl ?_
        refine r_i2l (pc := 37) C dX9_drawn_37 ?_
        refine r_lconst (pc := 38) (v := 0) C dX9_drawn_38 (by decide) ?_
        refine r_lconst (pc := 39) (v := 1) C dX9_drawn_39 (by decide) ?_
        have hM := c_X9_in X  M5 (Int32.toInt64 x3) 0 1 _ h
        refine q_s0 (s1 := List.reverse [.long (Int32.toInt64 x3), .long 0, .long 1] ++ []) rfl ?_
        refine r_callSi (pc := 40) (As := [.long (Int32.toInt64 x3), .long 0, .long 1]) (st := []) C 3 hM aw147 aw148 aw149 aw5 yd_X9_in ⟨rfl, rfl⟩ ⟨Nat.le_of_ble_eq_true rfl, Nat.le_of_ble_eq_true rfl⟩ rfl (Nat.le_of_ble_eq_true rfl) dX9_drawn_40 (fun r9 M8 h => ?_)
        refine r_if_ne (pc := 43) (tgt := 49) C dX9_drawn_43 (by decide) (fun c10 => ?_) (fun c10 => ?_)
        · have h := h.1 c10
          refine r_aload_n (pc := 49) C 0 dX9_drawn_49 rfl ?_
          refine r_iconst (pc := 50) (v := 0) C dX9_drawn_50 (by decide) ?_
          refine r_sipush (pc := 51) (v := 3402) C dX9_drawn_51 (by decide) ?_
          have hM := c_X9_copyTown X  M8 0 3402 _ h
          refine q_s0 (s1 := List.reverse [.int 0, .int 3402] ++ .ref (ad X 85) :: []) rfl ?_
          refine r_callVv (pc := 54) (k := 85) (As := [.int 0, .int 3402]) (st := []) C 2 (by decide) (ce85 _) rfl aw377 aw378 hM aw376 aw379 aw5 yd_X9_copyTown ⟨rfl, rfl⟩ ⟨Nat.le_of_ble_eq_true rfl, Nat.le_of_ble_eq_true rfl⟩ rfl (Nat.le_of_ble_eq_true rfl) dX9_drawn_54 (fun M11 h => ?_)
          refine r_iload_n (pc := 57) C 2 dX9_drawn_57 rfl ?_
          refine r_i2l (pc := 58) C dX9_drawn_58 ?_
          refine r_topl (fun v13 ev13 => ?_)
          replace h := h v13 ev13
          refine r_lstore (pc := 59) (lv2 := [(4, .long v13), (0, .ref (ad X 85)), (1, .int x1), (2, .int x2), (3, .int x3)]) C dX9_drawn_59 (by decide) rfl ?_
          refine r_iconst (pc := 61) (v := 0) C dX9_drawn_61 (by decide) ?_
          refine r_istore (pc := 62) (lv2 := [(6, .int 0), (4, .long v13), (0, .ref (ad X 85)), (1, .int x1), (2, .int x2), (3, .int x3)]) C dX9_drawn_62 (by decide) rfl ?_
          refine r_iconst (pc := 64) (v := 0) C dX9_drawn_64 (by decide) ?_
          refine r_istore (pc := 65) (lv2 := [(7, .int 0), (6, .int 0), (4, .long v13), (0, .ref (ad X 85)), (1, .int x1), (2, .int x2), (3, .int x3)]) C dX9_drawn_65 (by decide) rfl ?_
          obtain ⟨n14, h⟩ := h
          refine r_sub (lv2 := [(0, .ref (ad X 85)), (1, .int x1), (3, .int x3), (4, .long v13), (6, .int 0), (7, .int 0)]) [3, 4, 6, 2, 1, 0] rfl ?_
          exact hL67  _ _ _ _ _ _ _ h
        · have h := h.2 c10
          refine r_ldc (pc := 46) C aw142 dX9_drawn_46 ?_
          exact r_iret (pc := 48) C dX9_drawn_48 h
  · have h := h.2 c1
    refine r_ldc (pc := 9) C aw408 dX9_drawn_9 ?_
    exact r_iret (pc := 11) C dX9_drawn_11 h
theorem yd_X9_image : yX9_image.cls ≠ "java/lang/invoke/MethodHandle" ∧ yX9_image.cls ≠ "java/lang/invoke/VarHandle" ∧ (parseMethodDescriptor yX9_image.desc).map (fun d => d.parameters.length) = some 1 := by decide +kernel
def w_X9_image  (M : Mem) (x1 : Int32) (Q : Int32 → Mem → Prop) : Prop :=
  w_X9_in  M (Int32.toInt64 x1) 0 1 (fun r2 M1 => ((¬ r2 = 0) → (((¬ (M1 86 3) = 0) → (w_X9_copyTown  M1 0 (3150 + (126 * x1)) (fun M5 => vp_in x1 2 ∧ (∀ M8 : Mem, M8 = ms M5 87 (Int32.toNatClampNeg x1) (vp_nar .boolean 1) → (Q 1 M8))))) ∧ (((M1 86 3) = 0) → (Q (-1000002) M1)))) ∧ ((r2 = 0) → (Q (-1000001) M1)))
abbrev rm_X9_image : Room := { frames := 6, cells := 0, slots := 0, locals := 120 }
set_option maxHeartbeats 4000000 in
set_option maxRecDepth 100000 in
theorem c_X9_image (X : Cx)  (M : Mem) (x1 : Int32) (Q : Int32 → Mem → Prop) (h : w_X9_image  M x1 Q) : Ct yX9_image cX9_image 2 (some .int) rm_X9_image X M [.ref (ad X 85), .int x1] (Qi X Q) := by
  refine ct_of (own := RX9) (lv := [(0, .ref (ad X 85)), (1, .int x1)]) rfl (by decide) (Nat.le_of_ble_eq_true rfl) rfl ?_
  intro K C
  unfold w_X9_image at h
  refine r_iload_n (pc := 0) C 1 dX9_image_0 rfl ?_
  refine r_i2l (pc := 1) C dX9_image_1 ?_
  refine r_lconst (pc := 2) (v := 0) C dX9_image_2 (by decide) ?_
  refine r_lconst (pc := 3) (v := 1) C dX9_image_3 (by decide) ?_
  have hM := c_X9_in X  M (Int32.toInt64 x1) 0 1 _ h
  refine q_s0 (s1 := List.reverse [.long (Int32.toInt64 x1), .long 0, .long 1] ++ []) rfl ?_
  refine r_callSi (pc := 4) (As := [.long (Int32.toInt64 x1), .long 0, .long 1]) (st := []) C 3 hM aw147 aw148 aw149 aw5 yd_X9_in ⟨rfl, rfl⟩ ⟨Nat.le_of_ble_eq_true rfl, Nat.le_of_ble_eq_true rfl⟩ rfl (Nat.le_of_ble_eq_true rfl) dX9_image_4 (fun r2 M1 h => ?_)
  refine r_if_ne (pc := 7) (tgt := 13) C dX9_image_7 (by decide) (fun c3 => ?_) (fun c3 => ?_)
  · have h := h.1 c3
    refine r_aload_n (pc := 13) C 0 dX9_image_13 rfl ?_
    refine r_get (pc := 14) (k := 85) (j := 0) (Cn := RX9) (T := TX9) (N := 21) C (by decide) (ce85 _) rfl iaX9 (by decide) aw103 rfl rfl dX9_image_14 ?_
    refine r_iconst (pc := 17) (v := 3) C dX9_image_17 (by decide) ?_
    refine q_iald (pc := 18) (k := 86) (n := 3528) (j := 3) C (by decide) (ce86 _) (in_lit (by decide)) (by decide) dX9_image_18 ?_
    refine r_if_ne (pc := 19) (tgt := 25) C dX9_image_19 (by decide) (fun c4 => ?_) (fun c4 => ?_)
    · have h := h.1 c4
      refine r_aload_n (pc := 25) C 0 dX9_image_25 rfl ?_
      refine r_iconst (pc := 26) (v := 0) C dX9_image_26 (by decide) ?_
      refine r_sipush (pc := 27) (v := 3150) C dX9_image_27 (by decide) ?_
      refine r_bipush (pc := 30) (v := 126) C dX9_image_30 (by decide) ?_
      refine r_iload_n (pc := 32) C 1 dX9_image_32 rfl ?_
      refine r_imul (pc := 33) C dX9_image_33 ?_
      refine r_iadd (pc := 34) C dX9_image_34 ?_
      have hM := c_X9_copyTown X  M1 0 (3150 + (126 * x1)) _ h
      refine q_s0 (s1 := List.reverse [.int 0, .int (3150 + (126 * x1))] ++ .ref (ad X 85) :: []) rfl ?_
      refine r_callVv (pc := 35) (k := 85) (As := [.int 0, .int (3150 + (126 * x1))]) (st := []) C 2 (by decide) (ce85 _) rfl aw377 aw378 hM aw376 aw379 aw5 yd_X9_copyTown ⟨rfl, rfl⟩ ⟨Nat.le_of_ble_eq_true rfl, Nat.le_of_ble_eq_true rfl⟩ rfl (Nat.le_of_ble_eq_true rfl) dX9_image_35 (fun M5 h => ?_)
      refine r_aload_n (pc := 38) C 0 dX9_image_38 rfl ?_
      refine r_get (pc := 39) (k := 85) (j := 2) (Cn := RX9) (T := TX9) (N := 21) C (by decide) (ce85 _) rfl iaX9 (by decide) aw105 rfl rfl dX9_image_39 ?_
      refine r_iload_n (pc := 42) C 1 dX9_image_42 rfl ?_
      refine r_iconst (pc := 43) (v := 1) C dX9_image_43 (by decide) ?_
      obtain ⟨g7, h⟩ := h
      refine q_zast (pc := 44) (k := 87) (n := 2) (j := (Int32.toNatClampNeg x1)) C (by decide) (ce87) g7 rfl dX9_image_44 ?_
      refine r_topM (fun M8 eM8 => ?_)
      replace h := h M8 eM8
      refine r_iconst (pc := 45) (v := 1) C dX9_image_45 (by decide) ?_
      exact r_iret (pc := 46) C dX9_image_46 h
    · have h := h.2 c4
      refine r_ldc (pc := 22) C aw408 dX9_image_22 ?_
      exact r_iret (pc := 24) C dX9_image_24 h
  · have h := h.2 c3
    refine r_ldc (pc := 10) C aw142 dX9_image_10 ?_
    exact r_iret (pc := 12) C dX9_image_12 h
theorem yd_X9_restore : yX9_restore.cls ≠ "java/lang/invoke/MethodHandle" ∧ yX9_restore.cls ≠ "java/lang/invoke/VarHandle" ∧ (parseMethodDescriptor yX9_restore.desc).map (fun d => d.parameters.length) = some 1 := by decide +kernel
def w_X9_restore  (M : Mem) (x1 : Int32) (Q : Int32 → Mem → Prop) : Prop :=
  w_X9_in  M (Int32.toInt64 x1) 0 1 (fun r2 M1 => ((¬ r2 = 0) → (vp_in x1 2 ∧ (((¬ (M1 87 (Int32.toNatClampNeg x1)) = 0) → (w_X9_copyTown  M1 (3150 + (126 * x1)) 0 (fun M6 => ∀ M8 : Mem, M8 = ms M6 85 1 0 → (Q 1 M8)))) ∧ (((M1 87 (Int32.toNatClampNeg x1)) = 0) → (Q (-1000002) M1))))) ∧ ((r2 = 0) → (Q (-1000001) M1)))
abbrev rm_X9_restore : Room := { frames := 6, cells := 0, slots := 0, locals := 120 }
set_option maxHeartbeats 4000000 in
set_option maxRecDepth 100000 in
theorem c_X9_restore (X : Cx)  (M : Mem) (x1 : Int32) (Q : Int32 → Mem → Prop) (h : w_X9_restore  M x1 Q) : Ct yX9_restore cX9_restore 2 (some .int) rm_X9_restore X M [.ref (ad X 85), .int x1] (Qi X Q) := by
  refine ct_of (own := RX9) (lv := [(0, .ref (ad X 85)), (1, .int x1)]) rfl (by decide) (Nat.le_of_ble_eq_true rfl) rfl ?_
  intro K C
  unfold w_X9_restore at h
  refine r_iload_n (pc := 0) C 1 dX9_restore_0 rfl ?_
  refine r_i2l (pc := 1) C dX9_restore_1 ?_
  refine r_lconst (pc := 2) (v := 0) C dX9_restore_2 (by decide) ?_
  refine r_lconst (pc := 3) (v := 1) C dX9_restore_3 (by decide) ?_
  have hM := c_X9_in X  M (Int32.toInt64 x1) 0 1 _ h
  refine q_s0 (s1 := List.reverse [.long (Int32.toInt64 x1), .long 0, .long 1] ++ []) rfl ?_
  refine r_callSi (pc := 4) (As := [.long (Int32.toInt64 x1), .long 0, .long 1]) (st := []) C 3 hM aw147 aw148 aw149 aw5 yd_X9_in ⟨rfl, rfl⟩ ⟨Nat.le_of_ble_eq_true rfl, Nat.le_of_ble_eq_true rfl⟩ rfl (Nat.le_of_ble_eq_true rfl) dX9_restore_4 (fun r2 M1 h => ?_)
  refine r_if_ne (pc := 7) (tgt := 13) C dX9_restore_7 (by decide) (fun c3 => ?_) (fun c3 => ?_)
  · have h := h.1 c3
    refine r_aload_n (pc := 13) C 0 dX9_restore_13 rfl ?_
    refine r_get (pc := 14) (k := 85) (j := 2) (Cn := RX9) (T := TX9) (N := 21) C (by decide) (ce85 _) rfl iaX9 (by decide) aw105 rfl rfl dX9_restore_14 ?_
    refine r_iload_n (pc := 17) C 1 dX9_restore_17 rfl ?_
    obtain ⟨g4, h⟩ := h
    refine q_zald (pc := 18) (k := 87) (n := 2) (j := (Int32.toNatClampNeg x1)) C (by decide) (ce87 _) g4 rfl dX9_restore_18 ?_
    refine r_if_ne (pc := 19) (tgt := 25) C dX9_restore_19 (by decide) (fun c5 => ?_) (fun c5 => ?_)
    · have h := h.1 c5
      refine r_aload_n (pc := 25) C 0 dX9_restore_25 rfl ?_
      refine r_sipush (pc := 26) (v := 3150) C dX9_restore_26 (by decide) ?_
      refine r_bipush (pc := 29) (v := 126) C dX9_restore_29 (by decide) ?_
      refine r_iload_n (pc := 31) C 1 dX9_restore_31 rfl ?_
      refine r_imul (pc := 32) C dX9_restore_32 ?_
      refine r_iadd (pc := 33) C dX9_restore_33 ?_
      refine r_iconst (pc := 34) (v := 0) C dX9_restore_34 (by decide) ?_
      have hM := c_X9_copyTown X  M1 (3150 + (126 * x1)) 0 _ h
      refine q_s0 (s1 := List.reverse [.int (3150 + (126 * x1)), .int 0] ++ .ref (ad X 85) :: []) rfl ?_
      refine r_callVv (pc := 35) (k := 85) (As := [.int (3150 + (126 * x1)), .int 0]) (st := []) C 2 (by decide) (ce85 _) rfl aw377 aw378 hM aw376 aw379 aw5 yd_X9_copyTown ⟨rfl, rfl⟩ ⟨Nat.le_of_ble_eq_true rfl, Nat.le_of_ble_eq_true rfl⟩ rfl (Nat.le_of_ble_eq_true rfl) dX9_restore_35 (fun M6 h => ?_)
      refine r_aload_n (pc := 38) C 0 dX9_restore_38 rfl ?_
      refine r_iconst (pc := 39) (v := 0) C dX9_restore_39 (by decide) ?_
      refine r_put (pc := 40) (k := 85) (j := 1) (Cn := RX9) (T := TX9) (N := 21) (host := "") C (by decide) (ce85 _) rfl iaX9 (by decide) (ce85 _) tyX9_ok nmX9 aw325 rfl rfl (tyX9_ok 1 (by decide)) (Nat.le_of_ble_eq_true rfl) dX9_restore_40 ?_
      refine r_topM (fun M8 eM8 => ?_)
      replace h := h M8 eM8
      refine r_iconst (pc := 43) (v := 1) C dX9_restore_43 (by decide) ?_
      exact r_iret (pc := 44) C dX9_restore_44 h
    · have h := h.2 c5
      refine r_ldc (pc := 22) C aw408 dX9_restore_22 ?_
      exact r_iret (pc := 24) C dX9_restore_24 h
  · have h := h.2 c3
    refine r_ldc (pc := 10) C aw142 dX9_restore_10 ?_
    exact r_iret (pc := 12) C dX9_restore_12 h
theorem yd_X9_kind : yX9_kind.cls ≠ "java/lang/invoke/MethodHandle" ∧ yX9_kind.cls ≠ "java/lang/invoke/VarHandle" ∧ (parseMethodDescriptor yX9_kind.desc).map (fun d => d.parameters.length) = some 1 := by decide +kernel
def w_X9_kind  (M : Mem) (x1 : Int32) (Q : Int32 → Mem → Prop) : Prop :=
  w_X9_isPerson  M x1 (fun r2 M1 => ((r2 = 0) → (Q (-1000001) M1)) ∧ ((¬ r2 = 0) → (∀ v4 : Int32, v4 = (18 + x1) → (vp_in v4 3528 ∧ (Q (M1 86 (Int32.toNatClampNeg v4)) M1)))))
abbrev rm_X9_kind : Room := { frames := 9, cells := 0, slots := 0, locals := 180 }
set_option maxHeartbeats 4000000 in
set_option maxRecDepth 100000 in
theorem c_X9_kind (X : Cx)  (M : Mem) (x1 : Int32) (Q : Int32 → Mem → Prop) (h : w_X9_kind  M x1 Q) : Ct yX9_kind cX9_kind 2 (some .int) rm_X9_kind X M [.ref (ad X 85), .int x1] (Qi X Q) := by
  refine ct_of (own := RX9) (lv := [(0, .ref (ad X 85)), (1, .int x1)]) rfl (by decide) (Nat.le_of_ble_eq_true rfl) rfl ?_
  intro K C
  unfold w_X9_kind at h
  refine r_aload_n (pc := 0) C 0 dX9_kind_0 rfl ?_
  refine r_iload_n (pc := 1) C 1 dX9_kind_1 rfl ?_
  have hM := c_X9_isPerson X  M x1 _ h
  refine q_s0 (s1 := List.reverse [.int x1] ++ .ref (ad X 85) :: []) rfl ?_
  refine r_callVi (pc := 2) (k := 85) (As := [.int x1]) (st := []) C 1 (by decide) (ce85 _) rfl aw484 aw485 hM aw483 aw486 aw5 yd_X9_isPerson ⟨rfl, rfl⟩ ⟨Nat.le_of_ble_eq_true rfl, Nat.le_of_ble_eq_true rfl⟩ rfl (Nat.le_of_ble_eq_true rfl) dX9_kind_2 (fun r2 M1 h => ?_)
  refine r_if_eq (pc := 5) (tgt := 20) C dX9_kind_5 (by decide) (fun c3 => ?_) (fun c3 => ?_)
  · have h := h.1 c3
    refine r_ldc (pc := 20) C aw142 dX9_kind_20 ?_
    exact r_iret (pc := 22) C dX9_kind_22 h
  · have h := h.2 c3
    refine r_aload_n (pc := 8) C 0 dX9_kind_8 rfl ?_
    refine r_get (pc := 9) (k := 85) (j := 0) (Cn := RX9) (T := TX9) (N := 21) C (by decide) (ce85 _) rfl iaX9 (by decide) aw103 rfl rfl dX9_kind_9 ?_
    refine r_bipush (pc := 12) (v := 18) C dX9_kind_12 (by decide) ?_
    refine r_iload_n (pc := 14) C 1 dX9_kind_14 rfl ?_
    refine r_iadd (pc := 15) C dX9_kind_15 ?_
    refine r_topi (fun v4 ev4 => ?_)
    replace h := h v4 ev4
    obtain ⟨g5, h⟩ := h
    refine q_iald (pc := 16) (k := 86) (n := 3528) (j := (Int32.toNatClampNeg v4)) C (by decide) (ce86 _) g5 rfl dX9_kind_16 ?_
    refine r_goto (pc := 17) (tgt := 22) C dX9_kind_17 (by decide) ?_
    exact r_iret (pc := 22) C dX9_kind_22 h
theorem yd_X9_isOf : yX9_isOf.cls ≠ "java/lang/invoke/MethodHandle" ∧ yX9_isOf.cls ≠ "java/lang/invoke/VarHandle" ∧ (parseMethodDescriptor yX9_isOf.desc).map (fun d => d.parameters.length) = some 2 := by decide +kernel
def wJ_X9_isOf_34  (Q : Int32 → Mem → Prop)  (M : Mem) (x2 : Int32) (x3 : Int32) : Prop :=
  ((¬ x2 = 4) → (Q 0 M)) ∧ ((x2 = 4) → (((¬ x3 = 5) → (Q 0 M)) ∧ ((x3 = 5) → (Q 1 M))))
def w_X9_isOf  (M : Mem) (x1 : Int32) (x2 : Int32) (Q : Int32 → Mem → Prop) : Prop :=
  ∀ v1 : Int32, v1 = (18 + x1) → (vp_in v1 3528 ∧ (∀ v3 : Int32, v3 = (M 86 (Int32.toNatClampNeg v1)) → (((x2 = 0) → (Q 1 M)) ∧ ((¬ x2 = 0) → (((x2 = v3) → (Q 1 M)) ∧ ((¬ x2 = v3) → (((¬ x2 = 1) → (wJ_X9_isOf_34  Q  M x2 v3)) ∧ ((x2 = 1) → (((v3 = 2) → (Q 1 M)) ∧ ((¬ v3 = 2) → (((v3 = 3) → (Q 1 M)) ∧ ((¬ v3 = 3) → (wJ_X9_isOf_34  Q  M x2 v3)))))))))))))
abbrev rm_X9_isOf : Room := { frames := 3, cells := 0, slots := 0, locals := 60 }
set_option maxHeartbeats 4000000 in
set_option maxRecDepth 100000 in
theorem c_X9_isOf (X : Cx)  (M : Mem) (x1 : Int32) (x2 : Int32) (Q : Int32 → Mem → Prop) (h : w_X9_isOf  M x1 x2 Q) : Ct yX9_isOf cX9_isOf 4 (some .boolean) rm_X9_isOf X M [.ref (ad X 85), .int x1, .int x2] (Qi X Q) := by
  refine ct_of (own := RX9) (lv := [(0, .ref (ad X 85)), (1, .int x1), (2, .int x2)]) rfl (by decide) (Nat.le_of_ble_eq_true rfl) rfl ?_
  intro K C
  have hJ34 : ∀  (M : Mem) (x2 : Int32) (x3 : Int32), wJ_X9_isOf_34  Q  M x2 x3 → WX K X 4 (Qi X Q) M 34 [(2, .int x2), (3, .int x3)] [] := by
    intro  M x2 x3 h
    unfold wJ_X9_isOf_34 at h
    refine r_iload_n (pc := 34) C 0 dX9_isOf_34 rfl ?_
    refine r_iconst (pc := 35) (v := 4) C dX9_isOf_35 (by decide) ?_
    refine r_icmp_ne (pc := 36) (tgt := 48) C dX9_isOf_36 (by decide) (fun c1 => ?_) (fun c1 => ?_)
    · have h := h.1 c1
      refine r_iconst (pc := 48) (v := 0) C dX9_isOf_48 (by decide) ?_
      exact r_zret (pc := 49) C dX9_isOf_49 (Or.inl rfl) h
    · have h := h.2 c1
      refine r_iload_n (pc := 39) C 1 dX9_isOf_39 rfl ?_
      refine r_iconst (pc := 40) (v := 5) C dX9_isOf_40 (by decide) ?_
      refine r_icmp_ne (pc := 41) (tgt := 48) C dX9_isOf_41 (by decide) (fun c2 => ?_) (fun c2 => ?_)
      · have h := h.1 c2
        refine r_iconst (pc := 48) (v := 0) C dX9_isOf_48 (by decide) ?_
        exact r_zret (pc := 49) C dX9_isOf_49 (Or.inl rfl) h
      · have h := h.2 c2
        refine r_iconst (pc := 44) (v := 1) C dX9_isOf_44 (by decide) ?_
        refine r_goto (pc := 45) (tgt := 49) C dX9_isOf_45 (by decide) ?_
        exact r_zret (pc := 49) C dX9_isOf_49 (Or.inr rfl) h
  unfold w_X9_isOf at h
  refine r_aload_n (pc := 0) C 0 dX9_isOf_0 rfl ?_
  refine r_get (pc := 1) (k := 85) (j := 0) (Cn := RX9) (T := TX9) (N := 21) C (by decide) (ce85 _) rfl iaX9 (by decide) aw103 rfl rfl dX9_isOf_1 ?_
  refine r_bipush (pc := 4) (v := 18) C dX9_isOf_4 (by decide) ?_
  refine r_iload_n (pc := 6) C 1 dX9_isOf_6 rfl ?_
  refine r_iadd (pc := 7) C dX9_isOf_7 ?_
  refine r_topi (fun v1 ev1 => ?_)
  replace h := h v1 ev1
  obtain ⟨g2, h⟩ := h
  refine q_iald (pc := 8) (k := 86) (n := 3528) (j := (Int32.toNatClampNeg v1)) C (by decide) (ce86 _) g2 rfl dX9_isOf_8 ?_
  refine r_topi (fun v3 ev3 => ?_)
  replace h := h v3 ev3
  refine r_istore_n (pc := 9) (lv2 := [(3, .int v3), (0, .ref (ad X 85)), (1, .int x1), (2, .int x2)]) C dX9_isOf_9 (by decide) rfl ?_
  refine r_iload_n (pc := 10) C 3 dX9_isOf_10 rfl ?_
  refine r_if_eq (pc := 11) (tgt := 44) C dX9_isOf_11 (by decide) (fun c4 => ?_) (fun c4 => ?_)
  · have h := h.1 c4
    refine r_iconst (pc := 44) (v := 1) C dX9_isOf_44 (by decide) ?_
    refine r_goto (pc := 45) (tgt := 49) C dX9_isOf_45 (by decide) ?_
    exact r_zret (pc := 49) C dX9_isOf_49 (Or.inr rfl) h
  · have h := h.2 c4
    refine r_iload_n (pc := 14) C 3 dX9_isOf_14 rfl ?_
    refine r_iload_n (pc := 15) C 0 dX9_isOf_15 rfl ?_
    refine r_icmp_eq (pc := 16) (tgt := 44) C dX9_isOf_16 (by decide) (fun c5 => ?_) (fun c5 => ?_)
    · have h := h.1 c5
      refine r_iconst (pc := 44) (v := 1) C dX9_isOf_44 (by decide) ?_
      refine r_goto (pc := 45) (tgt := 49) C dX9_isOf_45 (by decide) ?_
      exact r_zret (pc := 49) C dX9_isOf_49 (Or.inr rfl) h
    · have h := h.2 c5
      refine r_iload_n (pc := 19) C 3 dX9_isOf_19 rfl ?_
      refine r_iconst (pc := 20) (v := 1) C dX9_isOf_20 (by decide) ?_
      refine r_icmp_ne (pc := 21) (tgt := 34) C dX9_isOf_21 (by decide) (fun c6 => ?_) (fun c6 => ?_)
      · have h := h.1 c6
        refine r_sub (lv2 := [(2, .int x2), (3, .int v3)]) [3, 0] rfl ?_
        exact hJ34  _ _ _ h
      · have h := h.2 c6
        refine r_iload_n (pc := 24) C 0 dX9_isOf_24 rfl ?_
        refine r_iconst (pc := 25) (v := 2) C dX9_isOf_25 (by decide) ?_
        refine r_icmp_eq (pc := 26) (tgt := 44) C dX9_isOf_26 (by decide) (fun c7 => ?_) (fun c7 => ?_)
        · have h := h.1 c7
          refine r_iconst (pc := 44) (v := 1) C dX9_isOf_44 (by decide) ?_
          refine r_goto (pc := 45) (tgt := 49) C dX9_isOf_45 (by decide) ?_
          exact r_zret (pc := 49) C dX9_isOf_49 (Or.inr rfl) h
        · have h := h.2 c7
          refine r_iload_n (pc := 29) C 0 dX9_isOf_29 rfl ?_
          refine r_iconst (pc := 30) (v := 3) C dX9_isOf_30 (by decide) ?_
          refine r_icmp_eq (pc := 31) (tgt := 44) C dX9_isOf_31 (by decide) (fun c8 => ?_) (fun c8 => ?_)
          · have h := h.1 c8
            refine r_iconst (pc := 44) (v := 1) C dX9_isOf_44 (by decide) ?_
            refine r_goto (pc := 45) (tgt := 49) C dX9_isOf_45 (by decide) ?_
            exact r_zret (pc := 49) C dX9_isOf_49 (Or.inr rfl) h
          · have h := h.2 c8
            refine r_sub (lv2 := [(2, .int x2), (3, .int v3)]) [3, 0] rfl ?_
            exact hJ34  _ _ _ h
theorem yd_X9_as : yX9_as.cls ≠ "java/lang/invoke/MethodHandle" ∧ yX9_as.cls ≠ "java/lang/invoke/VarHandle" ∧ (parseMethodDescriptor yX9_as.desc).map (fun d => d.parameters.length) = some 2 := by decide +kernel
def w_X9_as  (M : Mem) (x1 : Int32) (x2 : Int32) (Q : Int32 → Mem → Prop) : Prop :=
  w_X9_isPerson  M x1 (fun r2 M1 => ((r2 = 0) → (Q (-1000001) M1)) ∧ ((¬ r2 = 0) → (w_X9_in  M1 (Int32.toInt64 x2) 0 5 (fun r5 M4 => ((¬ r5 = 0) → (w_X9_isOf  M4 x1 x2 (fun r8 M7 => ((r8 = 0) → (w_X9_find  M7 3 (fun r11 M10 => Q r11 M10))) ∧ ((¬ r8 = 0) → (w_X9_well  M7 x1 (fun r13 M12 => Q r13 M12)))))) ∧ ((r5 = 0) → (Q (-1000001) M4))))))
abbrev rm_X9_as : Room := { frames := 9, cells := 0, slots := 0, locals := 180 }
set_option maxHeartbeats 4000000 in
set_option maxRecDepth 100000 in
theorem c_X9_as (X : Cx)  (M : Mem) (x1 : Int32) (x2 : Int32) (Q : Int32 → Mem → Prop) (h : w_X9_as  M x1 x2 Q) : Ct yX9_as cX9_as 3 (some .int) rm_X9_as X M [.ref (ad X 85), .int x1, .int x2] (Qi X Q) := by
  refine ct_of (own := RX9) (lv := [(0, .ref (ad X 85)), (1, .int x1), (2, .int x2)]) rfl (by decide) (Nat.le_of_ble_eq_true rfl) rfl ?_
  intro K C
  unfold w_X9_as at h
  refine r_aload_n (pc := 0) C 0 dX9_as_0 rfl ?_
  refine r_iload_n (pc := 1) C 1 dX9_as_1 rfl ?_
  have hM := c_X9_isPerson X  M x1 _ h
  refine q_s0 (s1 := List.reverse [.int x1] ++ .ref (ad X 85) :: []) rfl ?_
  refine r_callVi (pc := 2) (k := 85) (As := [.int x1]) (st := []) C 1 (by decide) (ce85 _) rfl aw484 aw485 hM aw483 aw486 aw5 yd_X9_isPerson ⟨rfl, rfl⟩ ⟨Nat.le_of_ble_eq_true rfl, Nat.le_of_ble_eq_true rfl⟩ rfl (Nat.le_of_ble_eq_true rfl) dX9_as_2 (fun r2 M1 h => ?_)
  refine r_if_eq (pc := 5) (tgt := 20) C dX9_as_5 (by decide) (fun c3 => ?_) (fun c3 => ?_)
  · have h := h.1 c3
    refine r_ldc (pc := 20) C aw142 dX9_as_20 ?_
    exact r_iret (pc := 22) C dX9_as_22 h
  · have h := h.2 c3
    refine r_iload_n (pc := 8) C 2 dX9_as_8 rfl ?_
    refine r_i2l (pc := 9) C dX9_as_9 ?_
    refine r_lconst (pc := 10) (v := 0) C dX9_as_10 (by decide) ?_
    refine r_ldc2 (pc := 11) C aw889 dX9_as_11 ?_
    have hM := c_X9_in X  M1 (Int32.toInt64 x2) 0 5 _ h
    refine q_s0 (s1 := List.reverse [.long (Int32.toInt64 x2), .long 0, .long 5] ++ []) rfl ?_
    refine r_callSi (pc := 14) (As := [.long (Int32.toInt64 x2), .long 0, .long 5]) (st := []) C 3 hM aw147 aw148 aw149 aw5 yd_X9_in ⟨rfl, rfl⟩ ⟨Nat.le_of_ble_eq_true rfl, Nat.le_of_ble_eq_true rfl⟩ rfl (Nat.le_of_ble_eq_true rfl) dX9_as_14 (fun r5 M4 h => ?_)
    refine r_if_ne (pc := 17) (tgt := 23) C dX9_as_17 (by decide) (fun c6 => ?_) (fun c6 => ?_)
    · have h := h.1 c6
      refine r_aload_n (pc := 23) C 0 dX9_as_23 rfl ?_
      refine r_iload_n (pc := 24) C 1 dX9_as_24 rfl ?_
      refine r_iload_n (pc := 25) C 2 dX9_as_25 rfl ?_
      have hM := c_X9_isOf X  M4 x1 x2 _ h
      refine q_s0 (s1 := List.reverse [.int x1, .int x2] ++ .ref (ad X 85) :: []) rfl ?_
      refine r_callVi (pc := 26) (k := 85) (As := [.int x1, .int x2]) (st := []) C 2 (by decide) (ce85 _) rfl aw891 aw892 hM aw890 aw893 aw5 yd_X9_isOf ⟨rfl, rfl⟩ ⟨Nat.le_of_ble_eq_true rfl, Nat.le_of_ble_eq_true rfl⟩ rfl (Nat.le_of_ble_eq_true rfl) dX9_as_26 (fun r8 M7 h => ?_)
      refine r_if_eq (pc := 29) (tgt := 40) C dX9_as_29 (by decide) (fun c9 => ?_) (fun c9 => ?_)
      · have h := h.1 c9
        refine r_aload_n (pc := 40) C 0 dX9_as_40 rfl ?_
        refine r_iconst (pc := 41) (v := 3) C dX9_as_41 (by decide) ?_
        have hM := c_X9_find X  M7 3 _ h
        refine q_s0 (s1 := List.reverse [.int 3] ++ .ref (ad X 85) :: []) rfl ?_
        refine r_callVi (pc := 42) (k := 85) (As := [.int 3]) (st := []) C 1 (by decide) (ce85 _) rfl aw151 aw152 hM aw150 aw153 aw5 yd_X9_find ⟨rfl, rfl⟩ ⟨Nat.le_of_ble_eq_true rfl, Nat.le_of_ble_eq_true rfl⟩ rfl (Nat.le_of_ble_eq_true rfl) dX9_as_42 (fun r11 M10 h => ?_)
        exact r_iret (pc := 45) C dX9_as_45 h
      · have h := h.2 c9
        refine r_aload_n (pc := 32) C 0 dX9_as_32 rfl ?_
        refine r_iload_n (pc := 33) C 1 dX9_as_33 rfl ?_
        have hM := c_X9_well X  M7 x1 _ h
        refine q_s0 (s1 := List.reverse [.int x1] ++ .ref (ad X 85) :: []) rfl ?_
        refine r_callVi (pc := 34) (k := 85) (As := [.int x1]) (st := []) C 1 (by decide) (ce85 _) rfl aw157 aw158 hM aw156 aw159 aw5 yd_X9_well ⟨rfl, rfl⟩ ⟨Nat.le_of_ble_eq_true rfl, Nat.le_of_ble_eq_true rfl⟩ rfl (Nat.le_of_ble_eq_true rfl) dX9_as_34 (fun r13 M12 h => ?_)
        refine r_goto (pc := 37) (tgt := 45) C dX9_as_37 (by decide) ?_
        exact r_iret (pc := 45) C dX9_as_45 h
    · have h := h.2 c6
      refine r_ldc (pc := 20) C aw142 dX9_as_20 ?_
      exact r_iret (pc := 22) C dX9_as_22 h
theorem yd_X9_begin : yX9_begin.cls ≠ "java/lang/invoke/MethodHandle" ∧ yX9_begin.cls ≠ "java/lang/invoke/VarHandle" ∧ (parseMethodDescriptor yX9_begin.desc).map (fun d => d.parameters.length) = some 1 := by decide +kernel
def w_X9_begin  (M : Mem) (x1 : Int32) (Q : Mem → Prop) : Prop :=
  ((16 ≤ (M 85 11)) → (Q M)) ∧ ((¬ 16 ≤ (M 85 11)) → (vp_in (M 85 11) 16 ∧ (∀ M3 : Mem, M3 = ms M 92 (Int32.toNatClampNeg (M 85 11)) x1 → (∀ v4 : Int32, v4 = ((M3 85 11) + 1) → (∀ M5 : Mem, M5 = ms M3 85 11 v4 → (Q M5))))))
abbrev rm_X9_begin : Room := { frames := 3, cells := 0, slots := 0, locals := 60 }
set_option maxHeartbeats 4000000 in
set_option maxRecDepth 100000 in
theorem c_X9_begin (X : Cx)  (M : Mem) (x1 : Int32) (Q : Mem → Prop) (h : w_X9_begin  M x1 Q) : Ct yX9_begin cX9_begin 2 none rm_X9_begin X M [.ref (ad X 85), .int x1] (Qv X Q) := by
  refine ct_of (own := RX9) (lv := [(0, .ref (ad X 85)), (1, .int x1)]) rfl (by decide) (Nat.le_of_ble_eq_true rfl) rfl ?_
  intro K C
  unfold w_X9_begin at h
  refine r_aload_n (pc := 0) C 0 dX9_begin_0 rfl ?_
  refine r_get (pc := 1) (k := 85) (j := 11) (Cn := RX9) (T := TX9) (N := 21) C (by decide) (ce85 _) rfl iaX9 (by decide) aw918 rfl rfl dX9_begin_1 ?_
  refine r_bipush (pc := 4) (v := 16) C dX9_begin_4 (by decide) ?_
  refine r_icmp_ge (pc := 6) (tgt := 29) C dX9_begin_6 (by decide) (fun c1 => ?_) (fun c1 => ?_)
  · have h := h.1 c1
    exact r_vret (pc := 29) C dX9_begin_29 h
  · have h := h.2 c1
    refine r_aload_n (pc := 9) C 0 dX9_begin_9 rfl ?_
    refine r_get (pc := 10) (k := 85) (j := 10) (Cn := RX9) (T := TX9) (N := 21) C (by decide) (ce85 _) rfl iaX9 (by decide) aw110 rfl rfl dX9_begin_10 ?_
    refine r_aload_n (pc := 13) C 0 dX9_begin_13 rfl ?_
    refine r_get (pc := 14) (k := 85) (j := 11) (Cn := RX9) (T := TX9) (N := 21) C (by decide) (ce85 _) rfl iaX9 (by decide) aw918 rfl rfl dX9_begin_14 ?_
    refine r_iload_n (pc := 17) C 1 dX9_begin_17 rfl ?_
    obtain ⟨g2, h⟩ := h
    refine q_iast (pc := 18) (k := 92) (n := 16) (j := (Int32.toNatClampNeg (M 85 11))) C (by decide) (ce92) g2 rfl dX9_begin_18 ?_
    refine r_topM (fun M3 eM3 => ?_)
    replace h := h M3 eM3
    refine r_aload_n (pc := 19) C 0 dX9_begin_19 rfl ?_
    refine r_dup (pc := 20) C dX9_begin_20 rfl ?_
    refine r_get (pc := 21) (k := 85) (j := 11) (Cn := RX9) (T := TX9) (N := 21) C (by decide) (ce85 _) rfl iaX9 (by decide) aw918 rfl rfl dX9_begin_21 ?_
    refine r_iconst (pc := 24) (v := 1) C dX9_begin_24 (by decide) ?_
    refine r_iadd (pc := 25) C dX9_begin_25 ?_
    refine r_topi (fun v4 ev4 => ?_)
    replace h := h v4 ev4
    refine r_put (pc := 26) (k := 85) (j := 11) (Cn := RX9) (T := TX9) (N := 21) (host := "") C (by decide) (ce85 _) rfl iaX9 (by decide) (ce85 _) tyX9_ok nmX9 aw918 rfl rfl (tyX9_ok 11 (by decide)) (Nat.le_of_ble_eq_true rfl) dX9_begin_26 ?_
    refine r_topM (fun M5 eM5 => ?_)
    replace h := h M5 eM5
    exact r_vret (pc := 29) C dX9_begin_29 h
theorem yd_X9_lentSize : yX9_lentSize.cls ≠ "java/lang/invoke/MethodHandle" ∧ yX9_lentSize.cls ≠ "java/lang/invoke/VarHandle" ∧ (parseMethodDescriptor yX9_lentSize.desc).map (fun d => d.parameters.length) = some 1 := by decide +kernel
def w_X9_lentSize  (M : Mem) (x1 : Int32) (Q : Int32 → Mem → Prop) : Prop :=
  w_X9_begin  M 10 (fun M1 => w_X9_allTimes  M1 x1 (fun r4 M3 => Q r4 M3))
abbrev rm_X9_lentSize : Room := { frames := 9, cells := 0, slots := 0, locals := 180 }
set_option maxHeartbeats 4000000 in
set_option maxRecDepth 100000 in
theorem c_X9_lentSize (X : Cx)  (M : Mem) (x1 : Int32) (Q : Int32 → Mem → Prop) (h : w_X9_lentSize  M x1 Q) : Ct yX9_lentSize cX9_lentSize 2 (some .int) rm_X9_lentSize X M [.ref (ad X 85), .int x1] (Qi X Q) := by
  refine ct_of (own := RX9) (lv := [(0, .ref (ad X 85)), (1, .int x1)]) rfl (by decide) (Nat.le_of_ble_eq_true rfl) rfl ?_
  intro K C
  unfold w_X9_lentSize at h
  refine r_aload_n (pc := 0) C 0 dX9_lentSize_0 rfl ?_
  refine r_bipush (pc := 1) (v := 10) C dX9_lentSize_1 (by decide) ?_
  have hM := c_X9_begin X  M 10 _ h
  refine q_s0 (s1 := List.reverse [.int 10] ++ .ref (ad X 85) :: []) rfl ?_
  refine r_callVv (pc := 3) (k := 85) (As := [.int 10]) (st := []) C 1 (by decide) (ce85 _) rfl aw924 aw925 hM aw923 aw926 aw5 yd_X9_begin ⟨rfl, rfl⟩ ⟨Nat.le_of_ble_eq_true rfl, Nat.le_of_ble_eq_true rfl⟩ rfl (Nat.le_of_ble_eq_true rfl) dX9_lentSize_3 (fun M1 h => ?_)
  refine r_aload_n (pc := 6) C 0 dX9_lentSize_6 rfl ?_
  refine r_iload_n (pc := 7) C 1 dX9_lentSize_7 rfl ?_
  have hM := c_X9_allTimes X  M1 x1 _ h
  refine q_s0 (s1 := List.reverse [.int x1] ++ .ref (ad X 85) :: []) rfl ?_
  refine r_callVi (pc := 8) (k := 85) (As := [.int x1]) (st := []) C 1 (by decide) (ce85 _) rfl aw591 aw592 hM aw590 aw593 aw5 yd_X9_allTimes ⟨rfl, rfl⟩ ⟨Nat.le_of_ble_eq_true rfl, Nat.le_of_ble_eq_true rfl⟩ rfl (Nat.le_of_ble_eq_true rfl) dX9_lentSize_8 (fun r4 M3 h => ?_)
  exact r_iret (pc := 11) C dX9_lentSize_11 h
theorem yd_X9_lentMark : yX9_lentMark.cls ≠ "java/lang/invoke/MethodHandle" ∧ yX9_lentMark.cls ≠ "java/lang/invoke/VarHandle" ∧ (parseMethodDescriptor yX9_lentMark.desc).map (fun d => d.parameters.length) = some 1 := by decide +kernel
def w_X9_lentMark  (M : Mem) (x1 : Int32) (Q : Int32 → Mem → Prop) : Prop :=
  w_X9_begin  M 20 (fun M1 => Q x1 M1)
abbrev rm_X9_lentMark : Room := { frames := 6, cells := 0, slots := 0, locals := 120 }
set_option maxHeartbeats 4000000 in
set_option maxRecDepth 100000 in
theorem c_X9_lentMark (X : Cx)  (M : Mem) (x1 : Int32) (Q : Int32 → Mem → Prop) (h : w_X9_lentMark  M x1 Q) : Ct yX9_lentMark cX9_lentMark 2 (some .int) rm_X9_lentMark X M [.ref (ad X 85), .int x1] (Qi X Q) := by
  refine ct_of (own := RX9) (lv := [(0, .ref (ad X 85)), (1, .int x1)]) rfl (by decide) (Nat.le_of_ble_eq_true rfl) rfl ?_
  intro K C
  unfold w_X9_lentMark at h
  refine r_aload_n (pc := 0) C 0 dX9_lentMark_0 rfl ?_
  refine r_bipush (pc := 1) (v := 20) C dX9_lentMark_1 (by decide) ?_
  have hM := c_X9_begin X  M 20 _ h
  refine q_s0 (s1 := List.reverse [.int 20] ++ .ref (ad X 85) :: []) rfl ?_
  refine r_callVv (pc := 3) (k := 85) (As := [.int 20]) (st := []) C 1 (by decide) (ce85 _) rfl aw924 aw925 hM aw923 aw926 aw5 yd_X9_begin ⟨rfl, rfl⟩ ⟨Nat.le_of_ble_eq_true rfl, Nat.le_of_ble_eq_true rfl⟩ rfl (Nat.le_of_ble_eq_true rfl) dX9_lentMark_3 (fun M1 h => ?_)
  refine r_iload_n (pc := 6) C 1 dX9_lentMark_6 rfl ?_
  exact r_iret (pc := 7) C dX9_lentMark_7 h
theorem yd_X9_passersMark : yX9_passersMark.cls ≠ "java/lang/invoke/MethodHandle" ∧ yX9_passersMark.cls ≠ "java/lang/invoke/VarHandle" ∧ (parseMethodDescriptor yX9_passersMark.desc).map (fun d => d.parameters.length) = some 1 := by decide +kernel
def w_X9_passersMark  (M : Mem) (x1 : Int32) (Q : Int32 → Mem → Prop) : Prop :=
  w_X9_begin  M 21 (fun M1 => w_X9_lentMark  M1 x1 (fun r4 M3 => ∀ v5 : Int32, v5 = (30 + x1) → (vp_in v5 3528 ∧ (Q (r4 + (M3 86 (Int32.toNatClampNeg v5))) M3))))
abbrev rm_X9_passersMark : Room := { frames := 9, cells := 0, slots := 0, locals := 180 }
set_option maxHeartbeats 4000000 in
set_option maxRecDepth 100000 in
theorem c_X9_passersMark (X : Cx)  (M : Mem) (x1 : Int32) (Q : Int32 → Mem → Prop) (h : w_X9_passersMark  M x1 Q) : Ct yX9_passersMark cX9_passersMark 2 (some .int) rm_X9_passersMark X M [.ref (ad X 85), .int x1] (Qi X Q) := by
  refine ct_of (own := RX9) (lv := [(0, .ref (ad X 85)), (1, .int x1)]) rfl (by decide) (Nat.le_of_ble_eq_true rfl) rfl ?_
  intro K C
  unfold w_X9_passersMark at h
  refine r_aload_n (pc := 0) C 0 dX9_passersMark_0 rfl ?_
  refine r_bipush (pc := 1) (v := 21) C dX9_passersMark_1 (by decide) ?_
  have hM := c_X9_begin X  M 21 _ h
  refine q_s0 (s1 := List.reverse [.int 21] ++ .ref (ad X 85) :: []) rfl ?_
  refine r_callVv (pc := 3) (k := 85) (As := [.int 21]) (st := []) C 1 (by decide) (ce85 _) rfl aw924 aw925 hM aw923 aw926 aw5 yd_X9_begin ⟨rfl, rfl⟩ ⟨Nat.le_of_ble_eq_true rfl, Nat.le_of_ble_eq_true rfl⟩ rfl (Nat.le_of_ble_eq_true rfl) dX9_passersMark_3 (fun M1 h => ?_)
  refine r_aload_n (pc := 6) C 0 dX9_passersMark_6 rfl ?_
  refine r_iload_n (pc := 7) C 1 dX9_passersMark_7 rfl ?_
  have hM := c_X9_lentMark X  M1 x1 _ h
  refine q_s0 (s1 := List.reverse [.int x1] ++ .ref (ad X 85) :: []) rfl ?_
  refine r_callVi (pc := 8) (k := 85) (As := [.int x1]) (st := []) C 1 (by decide) (ce85 _) rfl aw944 aw945 hM aw943 aw946 aw5 yd_X9_lentMark ⟨rfl, rfl⟩ ⟨Nat.le_of_ble_eq_true rfl, Nat.le_of_ble_eq_true rfl⟩ rfl (Nat.le_of_ble_eq_true rfl) dX9_passersMark_8 (fun r4 M3 h => ?_)
  refine r_aload_n (pc := 11) C 0 dX9_passersMark_11 rfl ?_
  refine r_get (pc := 12) (k := 85) (j := 0) (Cn := RX9) (T := TX9) (N := 21) C (by decide) (ce85 _) rfl iaX9 (by decide) aw103 rfl rfl dX9_passersMark_12 ?_
  refine r_bipush (pc := 15) (v := 30) C dX9_passersMark_15 (by decide) ?_
  refine r_iload_n (pc := 17) C 1 dX9_passersMark_17 rfl ?_
  refine r_iadd (pc := 18) C dX9_passersMark_18 ?_
  refine r_topi (fun v5 ev5 => ?_)
  replace h := h v5 ev5
  obtain ⟨g6, h⟩ := h
  refine q_iald (pc := 19) (k := 86) (n := 3528) (j := (Int32.toNatClampNeg v5)) C (by decide) (ce86 _) g6 rfl dX9_passersMark_19 ?_
  refine r_iadd (pc := 20) C dX9_passersMark_20 ?_
  exact r_iret (pc := 21) C dX9_passersMark_21 h
theorem yd_X9_mark : yX9_mark.cls ≠ "java/lang/invoke/MethodHandle" ∧ yX9_mark.cls ≠ "java/lang/invoke/VarHandle" ∧ (parseMethodDescriptor yX9_mark.desc).map (fun d => d.parameters.length) = some 1 := by decide +kernel
def w_X9_mark  (M : Mem) (x1 : Int32) (Q : Int32 → Mem → Prop) : Prop :=
  ∀ v1 : Int32, v1 = (18 + x1) → (vp_in v1 3528 ∧ (∀ v3 : Int32, v3 = (M 86 (Int32.toNatClampNeg v1)) → ((v3 = 2 → (w_X9_begin  M 24 (fun M5 => w_X9_passersMark  M5 x1 (fun r8 M7 => Q (2 * r8) M7)))) ∧ (v3 = 3 → (w_X9_begin  M 22 (fun M10 => w_X9_passersMark  M10 x1 (fun r13 M12 => Q (r13 - 1000) M12)))) ∧ (¬ v3 = 2 → ¬ v3 = 3 → (w_X9_passersMark  M x1 (fun r15 M14 => Q r15 M14))))))
abbrev rm_X9_mark : Room := { frames := 12, cells := 0, slots := 0, locals := 240 }
set_option maxHeartbeats 4000000 in
set_option maxRecDepth 100000 in
theorem c_X9_mark (X : Cx)  (M : Mem) (x1 : Int32) (Q : Int32 → Mem → Prop) (h : w_X9_mark  M x1 Q) : Ct yX9_mark cX9_mark 2 (some .int) rm_X9_mark X M [.ref (ad X 85), .int x1] (Qi X Q) := by
  refine ct_of (own := RX9) (lv := [(0, .ref (ad X 85)), (1, .int x1)]) rfl (by decide) (Nat.le_of_ble_eq_true rfl) rfl ?_
  intro K C
  unfold w_X9_mark at h
  refine r_aload_n (pc := 0) C 0 dX9_mark_0 rfl ?_
  refine r_get (pc := 1) (k := 85) (j := 0) (Cn := RX9) (T := TX9) (N := 21) C (by decide) (ce85 _) rfl iaX9 (by decide) aw103 rfl rfl dX9_mark_1 ?_
  refine r_bipush (pc := 4) (v := 18) C dX9_mark_4 (by decide) ?_
  refine r_iload_n (pc := 6) C 1 dX9_mark_6 rfl ?_
  refine r_iadd (pc := 7) C dX9_mark_7 ?_
  refine r_topi (fun v1 ev1 => ?_)
  replace h := h v1 ev1
  obtain ⟨g2, h⟩ := h
  refine q_iald (pc := 8) (k := 86) (n := 3528) (j := (Int32.toNatClampNeg v1)) C (by decide) (ce86 _) g2 rfl dX9_mark_8 ?_
  refine r_topi (fun v3 ev3 => ?_)
  replace h := h v3 ev3
  by_cases e4 : v3 = 2
  · have h := h.1 e4
    refine r_look (pc := 9) (off := 43) (tgt := 52) C dX9_mark_9 (by decide) (by rw [e4]; decide) (by decide) ?_
    refine r_aload_n (pc := 52) C 0 dX9_mark_52 rfl ?_
    refine r_bipush (pc := 53) (v := 24) C dX9_mark_53 (by decide) ?_
    have hM := c_X9_begin X  M 24 _ h
    refine q_s0 (s1 := List.reverse [.int 24] ++ .ref (ad X 85) :: []) rfl ?_
    refine r_callVv (pc := 55) (k := 85) (As := [.int 24]) (st := []) C 1 (by decide) (ce85 _) rfl aw924 aw925 hM aw923 aw926 aw5 yd_X9_begin ⟨rfl, rfl⟩ ⟨Nat.le_of_ble_eq_true rfl, Nat.le_of_ble_eq_true rfl⟩ rfl (Nat.le_of_ble_eq_true rfl) dX9_mark_55 (fun M5 h => ?_)
    refine r_iconst (pc := 58) (v := 2) C dX9_mark_58 (by decide) ?_
    refine r_aload_n (pc := 59) C 0 dX9_mark_59 rfl ?_
    refine r_iload_n (pc := 60) C 1 dX9_mark_60 rfl ?_
    have hM := c_X9_passersMark X  M5 x1 _ h
    refine q_s0 (s1 := List.reverse [.int x1] ++ .ref (ad X 85) :: [.int 2]) rfl ?_
    refine r_callVi (pc := 61) (k := 85) (As := [.int x1]) (st := [.int 2]) C 1 (by decide) (ce85 _) rfl aw940 aw941 hM aw939 aw942 aw5 yd_X9_passersMark ⟨rfl, rfl⟩ ⟨Nat.le_of_ble_eq_true rfl, Nat.le_of_ble_eq_true rfl⟩ rfl (Nat.le_of_ble_eq_true rfl) dX9_mark_61 (fun r8 M7 h => ?_)
    refine r_imul (pc := 64) C dX9_mark_64 ?_
    exact r_iret (pc := 65) C dX9_mark_65 h
  · skip
    by_cases e9 : v3 = 3
    · have h := h.2.1 e9
      refine r_look (pc := 9) (off := 27) (tgt := 36) C dX9_mark_9 (by decide) (by rw [e9]; decide) (by decide) ?_
      refine r_aload_n (pc := 36) C 0 dX9_mark_36 rfl ?_
      refine r_bipush (pc := 37) (v := 22) C dX9_mark_37 (by decide) ?_
      have hM := c_X9_begin X  M 22 _ h
      refine q_s0 (s1 := List.reverse [.int 22] ++ .ref (ad X 85) :: []) rfl ?_
      refine r_callVv (pc := 39) (k := 85) (As := [.int 22]) (st := []) C 1 (by decide) (ce85 _) rfl aw924 aw925 hM aw923 aw926 aw5 yd_X9_begin ⟨rfl, rfl⟩ ⟨Nat.le_of_ble_eq_true rfl, Nat.le_of_ble_eq_true rfl⟩ rfl (Nat.le_of_ble_eq_true rfl) dX9_mark_39 (fun M10 h => ?_)
      refine r_aload_n (pc := 42) C 0 dX9_mark_42 rfl ?_
      refine r_iload_n (pc := 43) C 1 dX9_mark_43 rfl ?_
      have hM := c_X9_passersMark X  M10 x1 _ h
      refine q_s0 (s1 := List.reverse [.int x1] ++ .ref (ad X 85) :: []) rfl ?_
      refine r_callVi (pc := 44) (k := 85) (As := [.int x1]) (st := []) C 1 (by decide) (ce85 _) rfl aw940 aw941 hM aw939 aw942 aw5 yd_X9_passersMark ⟨rfl, rfl⟩ ⟨Nat.le_of_ble_eq_true rfl, Nat.le_of_ble_eq_true rfl⟩ rfl (Nat.le_of_ble_eq_true rfl) dX9_mark_44 (fun r13 M12 h => ?_)
      refine r_sipush (pc := 47) (v := 1000) C dX9_mark_47 (by decide) ?_
      refine r_isub (pc := 50) C dX9_mark_50 ?_
      exact r_iret (pc := 51) C dX9_mark_51 h
    · skip
      have h := h.2.2 e4 e9
      refine r_look (pc := 9) (off := 57) (tgt := 66) C dX9_mark_9 (by decide) ((lv_osw (k := 2) e4 (by decide)).trans ((lv_osw (k := 3) e9 (by decide)).trans (rfl))) (by decide) ?_
      refine r_aload_n (pc := 66) C 0 dX9_mark_66 rfl ?_
      refine r_iload_n (pc := 67) C 1 dX9_mark_67 rfl ?_
      have hM := c_X9_passersMark X  M x1 _ h
      refine q_s0 (s1 := List.reverse [.int x1] ++ .ref (ad X 85) :: []) rfl ?_
      refine r_callVi (pc := 68) (k := 85) (As := [.int x1]) (st := []) C 1 (by decide) (ce85 _) rfl aw940 aw941 hM aw939 aw942 aw5 yd_X9_passersMark ⟨rfl, rfl⟩ ⟨Nat.le_of_ble_eq_true rfl, Nat.le_of_ble_eq_true rfl⟩ rfl (Nat.le_of_ble_eq_true rfl) dX9_mark_68 (fun r15 M14 h => ?_)
      exact r_iret (pc := 71) C dX9_mark_71 h
theorem yd_X9_passersSize : yX9_passersSize.cls ≠ "java/lang/invoke/MethodHandle" ∧ yX9_passersSize.cls ≠ "java/lang/invoke/VarHandle" ∧ (parseMethodDescriptor yX9_passersSize.desc).map (fun d => d.parameters.length) = some 1 := by decide +kernel
def w_X9_passersSize  (M : Mem) (x1 : Int32) (Q : Int32 → Mem → Prop) : Prop :=
  w_X9_begin  M 11 (fun M1 => w_X9_lentSize  M1 x1 (fun r4 M3 => w_X9_mark  M3 x1 (fun r6 M5 => Q (r4 + r6) M5)))
abbrev rm_X9_passersSize : Room := { frames := 15, cells := 0, slots := 0, locals := 300 }
set_option maxHeartbeats 4000000 in
set_option maxRecDepth 100000 in
theorem c_X9_passersSize (X : Cx)  (M : Mem) (x1 : Int32) (Q : Int32 → Mem → Prop) (h : w_X9_passersSize  M x1 Q) : Ct yX9_passersSize cX9_passersSize 3 (some .int) rm_X9_passersSize X M [.ref (ad X 85), .int x1] (Qi X Q) := by
  refine ct_of (own := RX9) (lv := [(0, .ref (ad X 85)), (1, .int x1)]) rfl (by decide) (Nat.le_of_ble_eq_true rfl) rfl ?_
  intro K C
  unfold w_X9_passersSize at h
  refine r_aload_n (pc := 0) C 0 dX9_passersSize_0 rfl ?_
  refine r_bipush (pc := 1) (v := 11) C dX9_passersSize_1 (by decide) ?_
  have hM := c_X9_begin X  M 11 _ h
  refine q_s0 (s1 := List.reverse [.int 11] ++ .ref (ad X 85) :: []) rfl ?_
  refine r_callVv (pc := 3) (k := 85) (As := [.int 11]) (st := []) C 1 (by decide) (ce85 _) rfl aw924 aw925 hM aw923 aw926 aw5 yd_X9_begin ⟨rfl, rfl⟩ ⟨Nat.le_of_ble_eq_true rfl, Nat.le_of_ble_eq_true rfl⟩ rfl (Nat.le_of_ble_eq_true rfl) dX9_passersSize_3 (fun M1 h => ?_)
  refine r_aload_n (pc := 6) C 0 dX9_passersSize_6 rfl ?_
  refine r_iload_n (pc := 7) C 1 dX9_passersSize_7 rfl ?_
  have hM := c_X9_lentSize X  M1 x1 _ h
  refine q_s0 (s1 := List.reverse [.int x1] ++ .ref (ad X 85) :: []) rfl ?_
  refine r_callVi (pc := 8) (k := 85) (As := [.int x1]) (st := []) C 1 (by decide) (ce85 _) rfl aw932 aw933 hM aw931 aw934 aw5 yd_X9_lentSize ⟨rfl, rfl⟩ ⟨Nat.le_of_ble_eq_true rfl, Nat.le_of_ble_eq_true rfl⟩ rfl (Nat.le_of_ble_eq_true rfl) dX9_passersSize_8 (fun r4 M3 h => ?_)
  refine r_istore_n (pc := 11) (lv2 := [(2, .int r4), (0, .ref (ad X 85)), (1, .int x1)]) C dX9_passersSize_11 (by decide) rfl ?_
  refine r_iload_n (pc := 12) C 0 dX9_passersSize_12 rfl ?_
  refine r_aload_n (pc := 13) C 1 dX9_passersSize_13 rfl ?_
  refine r_iload_n (pc := 14) C 2 dX9_passersSize_14 rfl ?_
  have hM := c_X9_mark X  M3 x1 _ h
  refine q_s0 (s1 := List.reverse [.int x1] ++ .ref (ad X 85) :: [.int r4]) rfl ?_
  refine r_callVi (pc := 15) (k := 85) (As := [.int x1]) (st := [.int r4]) C 1 (by decide) (ce85 _) rfl aw936 aw937 hM aw935 aw938 aw5 yd_X9_mark ⟨rfl, rfl⟩ ⟨Nat.le_of_ble_eq_true rfl, Nat.le_of_ble_eq_true rfl⟩ rfl (Nat.le_of_ble_eq_true rfl) dX9_passersSize_15 (fun r6 M5 h => ?_)
  refine r_iadd (pc := 18) C dX9_passersSize_18 ?_
  exact r_iret (pc := 19) C dX9_passersSize_19 h
theorem yd_X9_childrenSize : yX9_childrenSize.cls ≠ "java/lang/invoke/MethodHandle" ∧ yX9_childrenSize.cls ≠ "java/lang/invoke/VarHandle" ∧ (parseMethodDescriptor yX9_childrenSize.desc).map (fun d => d.parameters.length) = some 1 := by decide +kernel
def w_X9_childrenSize  (M : Mem) (x1 : Int32) (Q : Int32 → Mem → Prop) : Prop :=
  w_X9_begin  M 13 (fun M1 => w_X9_lentSize  M1 x1 (fun r4 M3 => Q (r4 - 100) M3))
abbrev rm_X9_childrenSize : Room := { frames := 12, cells := 0, slots := 0, locals := 240 }
set_option maxHeartbeats 4000000 in
set_option maxRecDepth 100000 in
theorem c_X9_childrenSize (X : Cx)  (M : Mem) (x1 : Int32) (Q : Int32 → Mem → Prop) (h : w_X9_childrenSize  M x1 Q) : Ct yX9_childrenSize cX9_childrenSize 2 (some .int) rm_X9_childrenSize X M [.ref (ad X 85), .int x1] (Qi X Q) := by
  refine ct_of (own := RX9) (lv := [(0, .ref (ad X 85)), (1, .int x1)]) rfl (by decide) (Nat.le_of_ble_eq_true rfl) rfl ?_
  intro K C
  unfold w_X9_childrenSize at h
  refine r_aload_n (pc := 0) C 0 dX9_childrenSize_0 rfl ?_
  refine r_bipush (pc := 1) (v := 13) C dX9_childrenSize_1 (by decide) ?_
  have hM := c_X9_begin X  M 13 _ h
  refine q_s0 (s1 := List.reverse [.int 13] ++ .ref (ad X 85) :: []) rfl ?_
  refine r_callVv (pc := 3) (k := 85) (As := [.int 13]) (st := []) C 1 (by decide) (ce85 _) rfl aw924 aw925 hM aw923 aw926 aw5 yd_X9_begin ⟨rfl, rfl⟩ ⟨Nat.le_of_ble_eq_true rfl, Nat.le_of_ble_eq_true rfl⟩ rfl (Nat.le_of_ble_eq_true rfl) dX9_childrenSize_3 (fun M1 h => ?_)
  refine r_aload_n (pc := 6) C 0 dX9_childrenSize_6 rfl ?_
  refine r_iload_n (pc := 7) C 1 dX9_childrenSize_7 rfl ?_
  have hM := c_X9_lentSize X  M1 x1 _ h
  refine q_s0 (s1 := List.reverse [.int x1] ++ .ref (ad X 85) :: []) rfl ?_
  refine r_callVi (pc := 8) (k := 85) (As := [.int x1]) (st := []) C 1 (by decide) (ce85 _) rfl aw932 aw933 hM aw931 aw934 aw5 yd_X9_lentSize ⟨rfl, rfl⟩ ⟨Nat.le_of_ble_eq_true rfl, Nat.le_of_ble_eq_true rfl⟩ rfl (Nat.le_of_ble_eq_true rfl) dX9_childrenSize_8 (fun r4 M3 h => ?_)
  refine r_bipush (pc := 11) (v := 100) C dX9_childrenSize_11 (by decide) ?_
  refine r_isub (pc := 13) C dX9_childrenSize_13 ?_
  exact r_iret (pc := 14) C dX9_childrenSize_14 h
theorem yd_X9_sizeOf : yX9_sizeOf.cls ≠ "java/lang/invoke/MethodHandle" ∧ yX9_sizeOf.cls ≠ "java/lang/invoke/VarHandle" ∧ (parseMethodDescriptor yX9_sizeOf.desc).map (fun d => d.parameters.length) = some 1 := by decide +kernel
def w_X9_sizeOf  (M : Mem) (x1 : Int32) (Q : Int32 → Mem → Prop) : Prop :=
  ∀ v1 : Int32, v1 = (18 + x1) → (vp_in v1 3528 ∧ (∀ v3 : Int32, v3 = (M 86 (Int32.toNatClampNeg v1)) → ((v3 = 2 → (w_X9_begin  M 12 (fun M5 => w_X9_passersSize  M5 x1 (fun r8 M7 => Q (-r8) M7)))) ∧ (v3 = 3 → (w_X9_passersSize  M x1 (fun r11 M10 => Q r11 M10))) ∧ (v3 = 4 → (w_X9_childrenSize  M x1 (fun r14 M13 => Q r14 M13))) ∧ (v3 = 5 → (w_X9_begin  M 14 (fun M16 => w_X9_childrenSize  M16 x1 (fun r19 M18 => Q (2 * r19) M18)))) ∧ (¬ v3 = 2 → ¬ v3 = 3 → ¬ v3 = 4 → ¬ v3 = 5 → (w_X9_passersSize  M x1 (fun r21 M20 => Q r21 M20))))))
abbrev rm_X9_sizeOf : Room := { frames := 18, cells := 0, slots := 0, locals := 360 }
set_option maxHeartbeats 4000000 in
set_option maxRecDepth 100000 in
theorem c_X9_sizeOf (X : Cx)  (M : Mem) (x1 : Int32) (Q : Int32 → Mem → Prop) (h : w_X9_sizeOf  M x1 Q) : Ct yX9_sizeOf cX9_sizeOf 2 (some .int) rm_X9_sizeOf X M [.ref (ad X 85), .int x1] (Qi X Q) := by
  refine ct_of (own := RX9) (lv := [(0, .ref (ad X 85)), (1, .int x1)]) rfl (by decide) (Nat.le_of_ble_eq_true rfl) rfl ?_
  intro K C
  unfold w_X9_sizeOf at h
  refine r_aload_n (pc := 0) C 0 dX9_sizeOf_0 rfl ?_
  refine r_get (pc := 1) (k := 85) (j := 0) (Cn := RX9) (T := TX9) (N := 21) C (by decide) (ce85 _) rfl iaX9 (by decide) aw103 rfl rfl dX9_sizeOf_1 ?_
  refine r_bipush (pc := 4) (v := 18) C dX9_sizeOf_4 (by decide) ?_
  refine r_iload_n (pc := 6) C 1 dX9_sizeOf_6 rfl ?_
  refine r_iadd (pc := 7) C dX9_sizeOf_7 ?_
  refine r_topi (fun v1 ev1 => ?_)
  replace h := h v1 ev1
  obtain ⟨g2, h⟩ := h
  refine q_iald (pc := 8) (k := 86) (n := 3528) (j := (Int32.toNatClampNeg v1)) C (by decide) (ce86 _) g2 rfl dX9_sizeOf_8 ?_
  refine r_topi (fun v3 ev3 => ?_)
  replace h := h v3 ev3
  by_cases e4 : v3 = 2
  · have h := h.1 e4
    refine r_tabIn (pc := 9) (off := 31) (tgt := 40) C 2 e4 dX9_sizeOf_9 (by decide) (by decide) (by decide) (by decide) ?_
    refine r_aload_n (pc := 40) C 0 dX9_sizeOf_40 rfl ?_
    refine r_bipush (pc := 41) (v := 12) C dX9_sizeOf_41 (by decide) ?_
    have hM := c_X9_begin X  M 12 _ h
    refine q_s0 (s1 := List.reverse [.int 12] ++ .ref (ad X 85) :: []) rfl ?_
    refine r_callVv (pc := 43) (k := 85) (As := [.int 12]) (st := []) C 1 (by decide) (ce85 _) rfl aw924 aw925 hM aw923 aw926 aw5 yd_X9_begin ⟨rfl, rfl⟩ ⟨Nat.le_of_ble_eq_true rfl, Nat.le_of_ble_eq_true rfl⟩ rfl (Nat.le_of_ble_eq_true rfl) dX9_sizeOf_43 (fun M5 h => ?_)
    refine r_aload_n (pc := 46) C 0 dX9_sizeOf_46 rfl ?_
    refine r_iload_n (pc := 47) C 1 dX9_sizeOf_47 rfl ?_
    have hM := c_X9_passersSize X  M5 x1 _ h
    refine q_s0 (s1 := List.reverse [.int x1] ++ .ref (ad X 85) :: []) rfl ?_
    refine r_callVi (pc := 48) (k := 85) (As := [.int x1]) (st := []) C 1 (by decide) (ce85 _) rfl aw928 aw929 hM aw927 aw930 aw5 yd_X9_passersSize ⟨rfl, rfl⟩ ⟨Nat.le_of_ble_eq_true rfl, Nat.le_of_ble_eq_true rfl⟩ rfl (Nat.le_of_ble_eq_true rfl) dX9_sizeOf_48 (fun r8 M7 h => ?_)
    refine r_ineg (pc := 51) C dX9_sizeOf_51 ?_
    exact r_iret (pc := 52) C dX9_sizeOf_52 h
  · skip
    by_cases e9 : v3 = 3
    · have h := h.2.1 e9
      refine r_tabIn (pc := 9) (off := 64) (tgt := 73) C 3 e9 dX9_sizeOf_9 (by decide) (by decide) (by decide) (by decide) ?_
      refine r_aload_n (pc := 73) C 0 dX9_sizeOf_73 rfl ?_
      refine r_iload_n (pc := 74) C 1 dX9_sizeOf_74 rfl ?_
      have hM := c_X9_passersSize X  M x1 _ h
      refine q_s0 (s1 := List.reverse [.int x1] ++ .ref (ad X 85) :: []) rfl ?_
      refine r_callVi (pc := 75) (k := 85) (As := [.int x1]) (st := []) C 1 (by decide) (ce85 _) rfl aw928 aw929 hM aw927 aw930 aw5 yd_X9_passersSize ⟨rfl, rfl⟩ ⟨Nat.le_of_ble_eq_true rfl, Nat.le_of_ble_eq_true rfl⟩ rfl (Nat.le_of_ble_eq_true rfl) dX9_sizeOf_75 (fun r11 M10 h => ?_)
      exact r_iret (pc := 78) C dX9_sizeOf_78 h
    · skip
      by_cases e12 : v3 = 4
      · have h := h.2.2.1 e12
        refine r_tabIn (pc := 9) (off := 44) (tgt := 53) C 4 e12 dX9_sizeOf_9 (by decide) (by decide) (by decide) (by decide) ?_
        refine r_aload_n (pc := 53) C 0 dX9_sizeOf_53 rfl ?_
        refine r_iload_n (pc := 54) C 1 dX9_sizeOf_54 rfl ?_
        have hM := c_X9_childrenSize X  M x1 _ h
        refine q_s0 (s1 := List.reverse [.int x1] ++ .ref (ad X 85) :: []) rfl ?_
        refine r_callVi (pc := 55) (k := 85) (As := [.int x1]) (st := []) C 1 (by decide) (ce85 _) rfl aw948 aw949 hM aw947 aw950 aw5 yd_X9_childrenSize ⟨rfl, rfl⟩ ⟨Nat.le_of_ble_eq_true rfl, Nat.le_of_ble_eq_true rfl⟩ rfl (Nat.le_of_ble_eq_true rfl) dX9_sizeOf_55 (fun r14 M13 h => ?_)
        exact r_iret (pc := 58) C dX9_sizeOf_58 h
      · skip
        by_cases e15 : v3 = 5
        · have h := h.2.2.2.1 e15
          refine r_tabIn (pc := 9) (off := 50) (tgt := 59) C 5 e15 dX9_sizeOf_9 (by decide) (by decide) (by decide) (by decide) ?_
          refine r_aload_n (pc := 59) C 0 dX9_sizeOf_59 rfl ?_
          refine r_bipush (pc := 60) (v := 14) C dX9_sizeOf_60 (by decide) ?_
          have hM := c_X9_begin X  M 14 _ h
          refine q_s0 (s1 := List.reverse [.int 14] ++ .ref (ad X 85) :: []) rfl ?_
          refine r_callVv (pc := 62) (k := 85) (As := [.int 14]) (st := []) C 1 (by decide) (ce85 _) rfl aw924 aw925 hM aw923 aw926 aw5 yd_X9_begin ⟨rfl, rfl⟩ ⟨Nat.le_of_ble_eq_true rfl, Nat.le_of_ble_eq_true rfl⟩ rfl (Nat.le_of_ble_eq_true rfl) dX9_sizeOf_62 (fun M16 h => ?_)
          refine r_iconst (pc := 65) (v := 2) C dX9_sizeOf_65 (by decide) ?_
          refine r_aload_n (pc := 66) C 0 dX9_sizeOf_66 rfl ?_
          refine r_iload_n (pc := 67) C 1 dX9_sizeOf_67 rfl ?_
          have hM := c_X9_childrenSize X  M16 x1 _ h
          refine q_s0 (s1 := List.reverse [.int x1] ++ .ref (ad X 85) :: [.int 2]) rfl ?_
          refine r_callVi (pc := 68) (k := 85) (As := [.int x1]) (st := [.int 2]) C 1 (by decide) (ce85 _) rfl aw948 aw949 hM aw947 aw950 aw5 yd_X9_childrenSize ⟨rfl, rfl⟩ ⟨Nat.le_of_ble_eq_true rfl, Nat.le_of_ble_eq_true rfl⟩ rfl (Nat.le_of_ble_eq_true rfl) dX9_sizeOf_68 (fun r19 M18 h => ?_)
          refine r_imul (pc := 71) C dX9_sizeOf_71 ?_
          exact r_iret (pc := 72) C dX9_sizeOf_72 h
        · skip
          have h := h.2.2.2.2 e4 e9 e12 e15
          refine r_tabOut (pc := 9) (tgt := 73) C dX9_sizeOf_9 (by have ke4 := ne_toInt (n := 2) e4 (by decide); have ke9 := ne_toInt (n := 3) e9 (by decide); have ke12 := ne_toInt (n := 4) e12 (by decide); have ke15 := ne_toInt (n := 5) e15 (by decide); omega) (by decide) ?_
          refine r_aload_n (pc := 73) C 0 dX9_sizeOf_73 rfl ?_
          refine r_iload_n (pc := 74) C 1 dX9_sizeOf_74 rfl ?_
          have hM := c_X9_passersSize X  M x1 _ h
          refine q_s0 (s1 := List.reverse [.int x1] ++ .ref (ad X 85) :: []) rfl ?_
          refine r_callVi (pc := 75) (k := 85) (As := [.int x1]) (st := []) C 1 (by decide) (ce85 _) rfl aw928 aw929 hM aw927 aw930 aw5 yd_X9_passersSize ⟨rfl, rfl⟩ ⟨Nat.le_of_ble_eq_true rfl, Nat.le_of_ble_eq_true rfl⟩ rfl (Nat.le_of_ble_eq_true rfl) dX9_sizeOf_75 (fun r21 M20 h => ?_)
          exact r_iret (pc := 78) C dX9_sizeOf_78 h
theorem yd_X9_childrenMark : yX9_childrenMark.cls ≠ "java/lang/invoke/MethodHandle" ∧ yX9_childrenMark.cls ≠ "java/lang/invoke/VarHandle" ∧ (parseMethodDescriptor yX9_childrenMark.desc).map (fun d => d.parameters.length) = some 1 := by decide +kernel
def w_X9_childrenMark  (M : Mem) (x1 : Int32) (Q : Int32 → Mem → Prop) : Prop :=
  w_X9_begin  M 23 (fun M1 => w_X9_lentMark  M1 x1 (fun r4 M3 => w_X9_sizeOf  M3 x1 (fun r6 M5 => Q (r4 - r6) M5)))
abbrev rm_X9_childrenMark : Room := { frames := 21, cells := 0, slots := 0, locals := 420 }
set_option maxHeartbeats 4000000 in
set_option maxRecDepth 100000 in
theorem c_X9_childrenMark (X : Cx)  (M : Mem) (x1 : Int32) (Q : Int32 → Mem → Prop) (h : w_X9_childrenMark  M x1 Q) : Ct yX9_childrenMark cX9_childrenMark 3 (some .int) rm_X9_childrenMark X M [.ref (ad X 85), .int x1] (Qi X Q) := by
  refine ct_of (own := RX9) (lv := [(0, .ref (ad X 85)), (1, .int x1)]) rfl (by decide) (Nat.le_of_ble_eq_true rfl) rfl ?_
  intro K C
  unfold w_X9_childrenMark at h
  refine r_aload_n (pc := 0) C 0 dX9_childrenMark_0 rfl ?_
  refine r_bipush (pc := 1) (v := 23) C dX9_childrenMark_1 (by decide) ?_
  have hM := c_X9_begin X  M 23 _ h
  refine q_s0 (s1 := List.reverse [.int 23] ++ .ref (ad X 85) :: []) rfl ?_
  refine r_callVv (pc := 3) (k := 85) (As := [.int 23]) (st := []) C 1 (by decide) (ce85 _) rfl aw924 aw925 hM aw923 aw926 aw5 yd_X9_begin ⟨rfl, rfl⟩ ⟨Nat.le_of_ble_eq_true rfl, Nat.le_of_ble_eq_true rfl⟩ rfl (Nat.le_of_ble_eq_true rfl) dX9_childrenMark_3 (fun M1 h => ?_)
  refine r_aload_n (pc := 6) C 0 dX9_childrenMark_6 rfl ?_
  refine r_iload_n (pc := 7) C 1 dX9_childrenMark_7 rfl ?_
  have hM := c_X9_lentMark X  M1 x1 _ h
  refine q_s0 (s1 := List.reverse [.int x1] ++ .ref (ad X 85) :: []) rfl ?_
  refine r_callVi (pc := 8) (k := 85) (As := [.int x1]) (st := []) C 1 (by decide) (ce85 _) rfl aw944 aw945 hM aw943 aw946 aw5 yd_X9_lentMark ⟨rfl, rfl⟩ ⟨Nat.le_of_ble_eq_true rfl, Nat.le_of_ble_eq_true rfl⟩ rfl (Nat.le_of_ble_eq_true rfl) dX9_childrenMark_8 (fun r4 M3 h => ?_)
  refine r_istore_n (pc := 11) (lv2 := [(2, .int r4), (0, .ref (ad X 85)), (1, .int x1)]) C dX9_childrenMark_11 (by decide) rfl ?_
  refine r_iload_n (pc := 12) C 0 dX9_childrenMark_12 rfl ?_
  refine r_aload_n (pc := 13) C 1 dX9_childrenMark_13 rfl ?_
  refine r_iload_n (pc := 14) C 2 dX9_childrenMark_14 rfl ?_
  have hM := c_X9_sizeOf X  M3 x1 _ h
  refine q_s0 (s1 := List.reverse [.int x1] ++ .ref (ad X 85) :: [.int r4]) rfl ?_
  refine r_callVi (pc := 15) (k := 85) (As := [.int x1]) (st := [.int r4]) C 1 (by decide) (ce85 _) rfl aw920 aw921 hM aw919 aw922 aw5 yd_X9_sizeOf ⟨rfl, rfl⟩ ⟨Nat.le_of_ble_eq_true rfl, Nat.le_of_ble_eq_true rfl⟩ rfl (Nat.le_of_ble_eq_true rfl) dX9_childrenMark_15 (fun r6 M5 h => ?_)
  refine r_isub (pc := 18) C dX9_childrenMark_18 ?_
  exact r_iret (pc := 19) C dX9_childrenMark_19 h
theorem yd_X9_ask : yX9_ask.cls ≠ "java/lang/invoke/MethodHandle" ∧ yX9_ask.cls ≠ "java/lang/invoke/VarHandle" ∧ (parseMethodDescriptor yX9_ask.desc).map (fun d => d.parameters.length) = some 2 := by decide +kernel
def w_X9_ask  (M : Mem) (x1 : Int32) (x2 : Int32) (Q : Int32 → Mem → Prop) : Prop :=
  w_X9_isPerson  M x1 (fun r2 M1 => ((r2 = 0) → (Q (-1000001) M1)) ∧ ((¬ r2 = 0) → (w_X9_in  M1 (Int32.toInt64 x2) 0 1 (fun r5 M4 => ((¬ r5 = 0) → (∀ M7 : Mem, M7 = ms M4 85 11 0 → (((¬ x2 = 0) → (w_X9_isOf  M7 x1 4 (fun r10 M9 => ((r10 = 0) → (w_X9_mark  M9 x1 (fun r13 M12 => Q r13 M12))) ∧ ((¬ r10 = 0) → (w_X9_childrenMark  M9 x1 (fun r15 M14 => Q r15 M14)))))) ∧ ((x2 = 0) → (w_X9_sizeOf  M7 x1 (fun r17 M16 => Q r17 M16)))))) ∧ ((r5 = 0) → (Q (-1000001) M4))))))
abbrev rm_X9_ask : Room := { frames := 24, cells := 0, slots := 0, locals := 480 }
set_option maxHeartbeats 4000000 in
set_option maxRecDepth 100000 in
theorem c_X9_ask (X : Cx)  (M : Mem) (x1 : Int32) (x2 : Int32) (Q : Int32 → Mem → Prop) (h : w_X9_ask  M x1 x2 Q) : Ct yX9_ask cX9_ask 3 (some .int) rm_X9_ask X M [.ref (ad X 85), .int x1, .int x2] (Qi X Q) := by
  refine ct_of (own := RX9) (lv := [(0, .ref (ad X 85)), (1, .int x1), (2, .int x2)]) rfl (by decide) (Nat.le_of_ble_eq_true rfl) rfl ?_
  intro K C
  unfold w_X9_ask at h
  refine r_aload_n (pc := 0) C 0 dX9_ask_0 rfl ?_
  refine r_iload_n (pc := 1) C 1 dX9_ask_1 rfl ?_
  have hM := c_X9_isPerson X  M x1 _ h
  refine q_s0 (s1 := List.reverse [.int x1] ++ .ref (ad X 85) :: []) rfl ?_
  refine r_callVi (pc := 2) (k := 85) (As := [.int x1]) (st := []) C 1 (by decide) (ce85 _) rfl aw484 aw485 hM aw483 aw486 aw5 yd_X9_isPerson ⟨rfl, rfl⟩ ⟨Nat.le_of_ble_eq_true rfl, Nat.le_of_ble_eq_true rfl⟩ rfl (Nat.le_of_ble_eq_true rfl) dX9_ask_2 (fun r2 M1 h => ?_)
  refine r_if_eq (pc := 5) (tgt := 18) C dX9_ask_5 (by decide) (fun c3 => ?_) (fun c3 => ?_)
  · have h := h.1 c3
    refine r_ldc (pc := 18) C aw142 dX9_ask_18 ?_
    exact r_iret (pc := 20) C dX9_ask_20 h
  · have h := h.2 c3
    refine r_iload_n (pc := 8) C 2 dX9_ask_8 rfl ?_
    refine r_i2l (pc := 9) C dX9_ask_9 ?_
    refine r_lconst (pc := 10) (v := 0) C dX9_ask_10 (by decide) ?_
    refine r_lconst (pc := 11) (v := 1) C dX9_ask_11 (by decide) ?_
    have hM := c_X9_in X  M1 (Int32.toInt64 x2) 0 1 _ h
    refine q_s0 (s1 := List.reverse [.long (Int32.toInt64 x2), .long 0, .long 1] ++ []) rfl ?_
    refine r_callSi (pc := 12) (As := [.long (Int32.toInt64 x2), .long 0, .long 1]) (st := []) C 3 hM aw147 aw148 aw149 aw5 yd_X9_in ⟨rfl, rfl⟩ ⟨Nat.le_of_ble_eq_true rfl, Nat.le_of_ble_eq_true rfl⟩ rfl (Nat.le_of_ble_eq_true rfl) dX9_ask_12 (fun r5 M4 h => ?_)
    refine r_if_ne (pc := 15) (tgt := 21) C dX9_ask_15 (by decide) (fun c6 => ?_) (fun c6 => ?_)
    · have h := h.1 c6
      refine r_aload_n (pc := 21) C 0 dX9_ask_21 rfl ?_
      refine r_iconst (pc := 22) (v := 0) C dX9_ask_22 (by decide) ?_
      refine r_put (pc := 23) (k := 85) (j := 11) (Cn := RX9) (T := TX9) (N := 21) (host := "") C (by decide) (ce85 _) rfl iaX9 (by decide) (ce85 _) tyX9_ok nmX9 aw918 rfl rfl (tyX9_ok 11 (by decide)) (Nat.le_of_ble_eq_true rfl) dX9_ask_23 ?_
      refine r_topM (fun M7 eM7 => ?_)
      replace h := h M7 eM7
      refine r_iload_n (pc := 26) C 2 dX9_ask_26 rfl ?_
      refine r_if_ne (pc := 27) (tgt := 38) C dX9_ask_27 (by decide) (fun c8 => ?_) (fun c8 => ?_)
      · have h := h.1 c8
        refine r_aload_n (pc := 38) C 0 dX9_ask_38 rfl ?_
        refine r_iload_n (pc := 39) C 1 dX9_ask_39 rfl ?_
        refine r_iconst (pc := 40) (v := 4) C dX9_ask_40 (by decide) ?_
        have hM := c_X9_isOf X  M7 x1 4 _ h
        refine q_s0 (s1 := List.reverse [.int x1, .int 4] ++ .ref (ad X 85) :: []) rfl ?_
        refine r_callVi (pc := 41) (k := 85) (As := [.int x1, .int 4]) (st := []) C 2 (by decide) (ce85 _) rfl aw891 aw892 hM aw890 aw893 aw5 yd_X9_isOf ⟨rfl, rfl⟩ ⟨Nat.le_of_ble_eq_true rfl, Nat.le_of_ble_eq_true rfl⟩ rfl (Nat.le_of_ble_eq_true rfl) dX9_ask_41 (fun r10 M9 h => ?_)
        refine r_if_eq (pc := 44) (tgt := 55) C dX9_ask_44 (by decide) (fun c11 => ?_) (fun c11 => ?_)
        · have h := h.1 c11
          refine r_aload_n (pc := 55) C 0 dX9_ask_55 rfl ?_
          refine r_iload_n (pc := 56) C 1 dX9_ask_56 rfl ?_
          have hM := c_X9_mark X  M9 x1 _ h
          refine q_s0 (s1 := List.reverse [.int x1] ++ .ref (ad X 85) :: []) rfl ?_
          refine r_callVi (pc := 57) (k := 85) (As := [.int x1]) (st := []) C 1 (by decide) (ce85 _) rfl aw936 aw937 hM aw935 aw938 aw5 yd_X9_mark ⟨rfl, rfl⟩ ⟨Nat.le_of_ble_eq_true rfl, Nat.le_of_ble_eq_true rfl⟩ rfl (Nat.le_of_ble_eq_true rfl) dX9_ask_57 (fun r13 M12 h => ?_)
          exact r_iret (pc := 60) C dX9_ask_60 h
        · have h := h.2 c11
          refine r_aload_n (pc := 47) C 0 dX9_ask_47 rfl ?_
          refine r_iload_n (pc := 48) C 1 dX9_ask_48 rfl ?_
          have hM := c_X9_childrenMark X  M9 x1 _ h
          refine q_s0 (s1 := List.reverse [.int x1] ++ .ref (ad X 85) :: []) rfl ?_
          refine r_callVi (pc := 49) (k := 85) (As := [.int x1]) (st := []) C 1 (by decide) (ce85 _) rfl aw952 aw953 hM aw951 aw954 aw5 yd_X9_childrenMark ⟨rfl, rfl⟩ ⟨Nat.le_of_ble_eq_true rfl, Nat.le_of_ble_eq_true rfl⟩ rfl (Nat.le_of_ble_eq_true rfl) dX9_ask_49 (fun r15 M14 h => ?_)
          refine r_goto (pc := 52) (tgt := 60) C dX9_ask_52 (by decide) ?_
          exact r_iret (pc := 60) C dX9_ask_60 h
      · have h := h.2 c8
        refine r_aload_n (pc := 30) C 0 dX9_ask_30 rfl ?_
        refine r_iload_n (pc := 31) C 1 dX9_ask_31 rfl ?_
        have hM := c_X9_sizeOf X  M7 x1 _ h
        refine q_s0 (s1 := List.reverse [.int x1] ++ .ref (ad X 85) :: []) rfl ?_
        refine r_callVi (pc := 32) (k := 85) (As := [.int x1]) (st := []) C 1 (by decide) (ce85 _) rfl aw920 aw921 hM aw919 aw922 aw5 yd_X9_sizeOf ⟨rfl, rfl⟩ ⟨Nat.le_of_ble_eq_true rfl, Nat.le_of_ble_eq_true rfl⟩ rfl (Nat.le_of_ble_eq_true rfl) dX9_ask_32 (fun r17 M16 h => ?_)
        refine r_goto (pc := 35) (tgt := 60) C dX9_ask_35 (by decide) ?_
        exact r_iret (pc := 60) C dX9_ask_60 h
    · have h := h.2 c6
      refine r_ldc (pc := 18) C aw142 dX9_ask_18 ?_
      exact r_iret (pc := 20) C dX9_ask_20 h
theorem yd_X9_trace : yX9_trace.cls ≠ "java/lang/invoke/MethodHandle" ∧ yX9_trace.cls ≠ "java/lang/invoke/VarHandle" ∧ (parseMethodDescriptor yX9_trace.desc).map (fun d => d.parameters.length) = some 1 := by decide +kernel
def w_X9_trace  (M : Mem) (x1 : Int32) (Q : Int32 → Mem → Prop) : Prop :=
  w_X9_in  M (Int32.toInt64 x1) 0 (Int32.toInt64 ((M 85 11) - 1)) (fun r2 M1 => ((r2 = 0) → (Q (-1000000) M1)) ∧ ((¬ r2 = 0) → (vp_in x1 16 ∧ (Q (M1 92 (Int32.toNatClampNeg x1)) M1))))
abbrev rm_X9_trace : Room := { frames := 6, cells := 0, slots := 0, locals := 120 }
set_option maxHeartbeats 4000000 in
set_option maxRecDepth 100000 in
theorem c_X9_trace (X : Cx)  (M : Mem) (x1 : Int32) (Q : Int32 → Mem → Prop) (h : w_X9_trace  M x1 Q) : Ct yX9_trace cX9_trace 2 (some .int) rm_X9_trace X M [.ref (ad X 85), .int x1] (Qi X Q) := by
  refine ct_of (own := RX9) (lv := [(0, .ref (ad X 85)), (1, .int x1)]) rfl (by decide) (Nat.le_of_ble_eq_true rfl) rfl ?_
  intro K C
  unfold w_X9_trace at h
  refine r_iload_n (pc := 0) C 1 dX9_trace_0 rfl ?_
  refine r_i2l (pc := 1) C dX9_trace_1 ?_
  refine r_lconst (pc := 2) (v := 0) C dX9_trace_2 (by decide) ?_
  refine r_aload_n (pc := 3) C 0 dX9_trace_3 rfl ?_
  refine r_get (pc := 4) (k := 85) (j := 11) (Cn := RX9) (T := TX9) (N := 21) C (by decide) (ce85 _) rfl iaX9 (by decide) aw918 rfl rfl dX9_trace_4 ?_
  refine r_iconst (pc := 7) (v := 1) C dX9_trace_7 (by decide) ?_
  refine r_isub (pc := 8) C dX9_trace_8 ?_
  refine r_i2l (pc := 9) C dX9_trace_9 ?_
  have hM := c_X9_in X  M (Int32.toInt64 x1) 0 (Int32.toInt64 ((M 85 11) - 1)) _ h
  refine q_s0 (s1 := List.reverse [.long (Int32.toInt64 x1), .long 0, .long (Int32.toInt64 ((M 85 11) - 1))] ++ []) rfl ?_
  refine r_callSi (pc := 10) (As := [.long (Int32.toInt64 x1), .long 0, .long (Int32.toInt64 ((M 85 11) - 1))]) (st := []) C 3 hM aw147 aw148 aw149 aw5 yd_X9_in ⟨rfl, rfl⟩ ⟨Nat.le_of_ble_eq_true rfl, Nat.le_of_ble_eq_true rfl⟩ rfl (Nat.le_of_ble_eq_true rfl) dX9_trace_10 (fun r2 M1 h => ?_)
  refine r_if_eq (pc := 13) (tgt := 25) C dX9_trace_13 (by decide) (fun c3 => ?_) (fun c3 => ?_)
  · have h := h.1 c3
    refine r_ldc (pc := 25) C aw330 dX9_trace_25 ?_
    exact r_iret (pc := 27) C dX9_trace_27 h
  · have h := h.2 c3
    refine r_aload_n (pc := 16) C 0 dX9_trace_16 rfl ?_
    refine r_get (pc := 17) (k := 85) (j := 10) (Cn := RX9) (T := TX9) (N := 21) C (by decide) (ce85 _) rfl iaX9 (by decide) aw110 rfl rfl dX9_trace_17 ?_
    refine r_iload_n (pc := 20) C 1 dX9_trace_20 rfl ?_
    obtain ⟨g4, h⟩ := h
    refine q_iald (pc := 21) (k := 92) (n := 16) (j := (Int32.toNatClampNeg x1)) C (by decide) (ce92 _) g4 rfl dX9_trace_21 ?_
    refine r_goto (pc := 22) (tgt := 27) C dX9_trace_22 (by decide) ?_
    exact r_iret (pc := 27) C dX9_trace_27 h
theorem yd_X9_count : yX9_count.cls ≠ "java/lang/invoke/MethodHandle" ∧ yX9_count.cls ≠ "java/lang/invoke/VarHandle" ∧ (parseMethodDescriptor yX9_count.desc).map (fun d => d.parameters.length) = some 1 := by decide +kernel
def wB_X9_count_115  (Q : Int32 → Mem → Prop)  (R115 : Mem → Int32 → Int32 → Prop) (M : Mem) (x2 : Int32) (x3 : Int32) : Prop :=
  ((6 ≤ x3) → (Q x2 M)) ∧ ((¬ 6 ≤ x3) → (w_X9_allTimes  M x3 (fun r3 M2 => ∀ v4 : Int32, v4 = (x2 + r3) → (∀ v5 : Int32, v5 = x3 + 1 → (R115 M2 v4 v5)))))
def wL_X9_count_115  (Q : Int32 → Mem → Prop)  : Nat → Mem → Int32 → Int32 → Prop
  | 0 => fun _ _ _ => False
  | n + 1 => fun M x2 x3 => wB_X9_count_115  Q  (wL_X9_count_115  Q  n) M x2 x3
theorem wL_X9_count_115_s  {Q : Int32 → Mem → Prop}  {n : Nat} {M : Mem} {x2 : Int32} {x3 : Int32} (h : wL_X9_count_115  Q  (n + 1) M x2 x3) : wB_X9_count_115  Q  (wL_X9_count_115  Q  n) M x2 x3 := h
def wB_X9_count_54  (Q : Int32 → Mem → Prop)  (R54 : Mem → Int32 → Int32 → Prop) (M : Mem) (x2 : Int32) (x3 : Int32) : Prop :=
  ((8 ≤ x3) → (Q x2 M)) ∧ ((¬ 8 ≤ x3) → (vp_in x3 8 ∧ (((0 ≤ (M 89 (Int32.toNatClampNeg x3))) → (∀ v4 : Int32, v4 = (x2 + 1) → (∀ v5 : Int32, v5 = x3 + 1 → (R54 M v4 v5)))) ∧ ((¬ 0 ≤ (M 89 (Int32.toNatClampNeg x3))) → (∀ v6 : Int32, v6 = (x2 + 0) → (∀ v7 : Int32, v7 = x3 + 1 → (R54 M v6 v7)))))))
def wL_X9_count_54  (Q : Int32 → Mem → Prop)  : Nat → Mem → Int32 → Int32 → Prop
  | 0 => fun _ _ _ => False
  | n + 1 => fun M x2 x3 => wB_X9_count_54  Q  (wL_X9_count_54  Q  n) M x2 x3
theorem wL_X9_count_54_s  {Q : Int32 → Mem → Prop}  {n : Nat} {M : Mem} {x2 : Int32} {x3 : Int32} (h : wL_X9_count_54  Q  (n + 1) M x2 x3) : wB_X9_count_54  Q  (wL_X9_count_54  Q  n) M x2 x3 := h
def w_X9_count  (M : Mem) (x1 : Int32) (Q : Int32 → Mem → Prop) : Prop :=
  (x1 = 0 → (∃ n2 : Nat, wL_X9_count_54  Q  n2 M 0 0)) ∧ (x1 = 1 → (Q (M 86 0) M)) ∧ (x1 = 2 → (Q (M 86 2) M)) ∧ (x1 = 3 → (Q (M 86 3) M)) ∧ (x1 = 4 → (Q (M 86 4) M)) ∧ (x1 = 5 → (∃ n8 : Nat, wL_X9_count_115  Q  n8 M 0 0)) ∧ (x1 = 6 → (Q (M 86 5) M)) ∧ (x1 = 7 → (Q (M 85 1) M)) ∧ (x1 = 8 → (Q (M 85 7) M)) ∧ (¬ x1 = 0 → ¬ x1 = 1 → ¬ x1 = 2 → ¬ x1 = 3 → ¬ x1 = 4 → ¬ x1 = 5 → ¬ x1 = 6 → ¬ x1 = 7 → ¬ x1 = 8 → (Q (-1000001) M))
abbrev rm_X9_count : Room := { frames := 9, cells := 0, slots := 0, locals := 180 }
set_option maxHeartbeats 4000000 in
set_option maxRecDepth 100000 in
theorem c_X9_count (X : Cx)  (M : Mem) (x1 : Int32) (Q : Int32 → Mem → Prop) (h : w_X9_count  M x1 Q) : Ct yX9_count cX9_count 4 (some .int) rm_X9_count X M [.ref (ad X 85), .int x1] (Qi X Q) := by
  refine ct_of (own := RX9) (lv := [(0, .ref (ad X 85)), (1, .int x1)]) rfl (by decide) (Nat.le_of_ble_eq_true rfl) rfl ?_
  intro K C
  have hL115 : ∀  (n : Nat) (M : Mem) (x2 : Int32) (x3 : Int32), wL_X9_count_115  Q  n M x2 x3 → WX K X 4 (Qi X Q) M 115 [(0, .ref (ad X 85)), (2, .int x2), (3, .int x3)] [] := by
    intro  n
    induction n with
    | zero => intro M x2 x3 h; exact absurd h id
    | succ n ih =>
      intro M x2 x3 h
      replace h := wL_X9_count_115_s h
      unfold wB_X9_count_115 at h
      refine r_iload_n (pc := 115) C 2 dX9_count_115 rfl ?_
      refine r_bipush (pc := 116) (v := 6) C dX9_count_116 (by decide) ?_
      refine r_icmp_ge (pc := 118) (tgt := 135) C dX9_count_118 (by decide) (fun c1 => ?_) (fun c1 => ?_)
      · have h := h.1 c1
        refine r_iload_n (pc := 135) C 1 dX9_count_135 rfl ?_
        exact r_iret (pc := 136) C dX9_count_136 h
      · have h := h.2 c1
        refine r_iload_n (pc := 121) C 1 dX9_count_121 rfl ?_
        refine r_aload_n (pc := 122) C 0 dX9_count_122 rfl ?_
        refine r_iload_n (pc := 123) C 2 dX9_count_123 rfl ?_
        have hM := c_X9_allTimes X  M x3 _ h
        refine q_s0 (s1 := List.reverse [.int x3] ++ .ref (ad X 85) :: [.int x2]) rfl ?_
        refine r_callVi (pc := 124) (k := 85) (As := [.int x3]) (st := [.int x2]) C 1 (by decide) (ce85 _) rfl aw591 aw592 hM aw590 aw593 aw5 yd_X9_allTimes ⟨rfl, rfl⟩ ⟨Nat.le_of_ble_eq_true rfl, Nat.le_of_ble_eq_true rfl⟩ rfl (Nat.le_of_ble_eq_true rfl) dX9_count_124 (fun r3 M2 h => ?_)
        refine r_iadd (pc := 127) C dX9_count_127 ?_
        refine r_topi (fun v4 ev4 => ?_)
        replace h := h v4 ev4
        refine r_istore_n (pc := 128) (lv2 := [(2, .int v4), (0, .ref (ad X 85)), (3, .int x3)]) C dX9_count_128 (by decide) rfl ?_
        obtain ⟨v5, ev5⟩ : ∃ z : Int32, z = x3 + 1 := ⟨_, rfl⟩
        replace h := h v5 ev5
        refine r_iinc (pc := 129) (v := v5) (lv2 := [(3, .int v5), (2, .int v4), (0, .ref (ad X 85))]) C 2 dX9_count_129 rfl (by rw [ev5]; rfl) (by decide) rfl ?_
        refine r_goto (pc := 132) (tgt := 115) C dX9_count_132 (by decide) ?_
        refine r_sub (lv2 := [(0, .ref (ad X 85)), (2, .int v4), (3, .int v5)]) [2, 1, 0] rfl ?_
        exact ih _ _ _ h
  have hL54 : ∀  (n : Nat) (M : Mem) (x2 : Int32) (x3 : Int32), wL_X9_count_54  Q  n M x2 x3 → WX K X 4 (Qi X Q) M 54 [(0, .ref (ad X 85)), (2, .int x2), (3, .int x3)] [] := by
    intro  n
    induction n with
    | zero => intro M x2 x3 h; exact absurd h id
    | succ n ih =>
      intro M x2 x3 h
      replace h := wL_X9_count_54_s h
      unfold wB_X9_count_54 at h
      refine r_iload_n (pc := 54) C 2 dX9_count_54 rfl ?_
      refine r_bipush (pc := 55) (v := 8) C dX9_count_55 (by decide) ?_
      refine r_icmp_ge (pc := 57) (tgt := 83) C dX9_count_57 (by decide) (fun c1 => ?_) (fun c1 => ?_)
      · have h := h.1 c1
        refine r_iload_n (pc := 83) C 1 dX9_count_83 rfl ?_
        exact r_iret (pc := 84) C dX9_count_84 h
      · have h := h.2 c1
        refine r_iload_n (pc := 60) C 1 dX9_count_60 rfl ?_
        refine r_aload_n (pc := 61) C 0 dX9_count_61 rfl ?_
        refine r_get (pc := 62) (k := 85) (j := 4) (Cn := RX9) (T := TX9) (N := 21) C (by decide) (ce85 _) rfl iaX9 (by decide) aw107 rfl rfl dX9_count_62 ?_
        refine r_iload_n (pc := 65) C 2 dX9_count_65 rfl ?_
        obtain ⟨g2, h⟩ := h
        refine q_iald (pc := 66) (k := 89) (n := 8) (j := (Int32.toNatClampNeg x3)) C (by decide) (ce89 _) g2 rfl dX9_count_66 ?_
        refine r_if_ge (pc := 67) (tgt := 74) C dX9_count_67 (by decide) (fun c3 => ?_) (fun c3 => ?_)
        · have h := h.1 c3
          refine r_iconst (pc := 74) (v := 1) C dX9_count_74 (by decide) ?_
          refine r_iadd (pc := 75) C dX9_count_75 ?_
          refine r_topi (fun v4 ev4 => ?_)
          replace h := h v4 ev4
          refine r_istore_n (pc := 76) (lv2 := [(2, .int v4), (0, .ref (ad X 85)), (3, .int x3)]) C dX9_count_76 (by decide) rfl ?_
          obtain ⟨v5, ev5⟩ : ∃ z : Int32, z = x3 + 1 := ⟨_, rfl⟩
          replace h := h v5 ev5
          refine r_iinc (pc := 77) (v := v5) (lv2 := [(3, .int v5), (2, .int v4), (0, .ref (ad X 85))]) C 2 dX9_count_77 rfl (by rw [ev5]; rfl) (by decide) rfl ?_
          refine r_goto (pc := 80) (tgt := 54) C dX9_count_80 (by decide) ?_
          refine r_sub (lv2 := [(0, .ref (ad X 85)), (2, .int v4), (3, .int v5)]) [2, 1, 0] rfl ?_
          exact ih _ _ _ h
        · have h := h.2 c3
          refine r_iconst (pc := 70) (v := 0) C dX9_count_70 (by decide) ?_
          refine r_goto (pc := 71) (tgt := 75) C dX9_count_71 (by decide) ?_
          refine r_iadd (pc := 75) C dX9_count_75 ?_
          refine r_topi (fun v6 ev6 => ?_)
          replace h := h v6 ev6
          refine r_istore_n (pc := 76) (lv2 := [(2, .int v6), (0, .ref (ad X 85)), (3, .int x3)]) C dX9_count_76 (by decide) rfl ?_
          obtain ⟨v7, ev7⟩ : ∃ z : Int32, z = x3 + 1 := ⟨_, rfl⟩
          replace h := h v7 ev7
          refine r_iinc (pc := 77) (v := v7) (lv2 := [(3, .int v7), (2, .int v6), (0, .ref (ad X 85))]) C 2 dX9_count_77 rfl (by rw [ev7]; rfl) (by decide) rfl ?_
          refine r_goto (pc := 80) (tgt := 54) C dX9_count_80 (by decide) ?_
          refine r_sub (lv2 := [(0, .ref (ad X 85)), (2, .int v6), (3, .int v7)]) [2, 1, 0] rfl ?_
          exact ih _ _ _ h
  unfold w_X9_count at h
  refine r_iconst (pc := 0) (v := 0) C dX9_count_0 (by decide) ?_
  refine r_istore_n (pc := 1) (lv2 := [(2, .int 0), (0, .ref (ad X 85)), (1, .int x1)]) C dX9_count_1 (by decide) rfl ?_
  refine r_iload_n (pc := 2) C 2 dX9_count_2 rfl ?_
  by_cases e1 : x1 = 0
  · have h := h.1 e1
    refine r_tabIn (pc := 3) (off := 49) (tgt := 52) C 0 e1 dX9_count_3 (by decide) (by decide) (by decide) (by decide) ?_
    refine r_iconst (pc := 52) (v := 0) C dX9_count_52 (by decide) ?_
    refine r_istore_n (pc := 53) (lv2 := [(3, .int 0), (2, .int 0), (0, .ref (ad X 85)), (1, .int x1)]) C dX9_count_53 (by decide) rfl ?_
    obtain ⟨n2, h⟩ := h
    refine r_sub (lv2 := [(0, .ref (ad X 85)), (2, .int 0), (3, .int 0)]) [2, 1, 0] rfl ?_
    exact hL54  _ _ _ _ h
  · skip
    by_cases e3 : x1 = 1
    · have h := h.2.1 e3
      refine r_tabIn (pc := 3) (off := 82) (tgt := 85) C 1 e3 dX9_count_3 (by decide) (by decide) (by decide) (by decide) ?_
      refine r_aload_n (pc := 85) C 1 dX9_count_85 rfl ?_
      refine r_get (pc := 86) (k := 85) (j := 0) (Cn := RX9) (T := TX9) (N := 21) C (by decide) (ce85 _) rfl iaX9 (by decide) aw103 rfl rfl dX9_count_86 ?_
      refine r_iconst (pc := 89) (v := 0) C dX9_count_89 (by decide) ?_
      refine q_iald (pc := 90) (k := 86) (n := 3528) (j := 0) C (by decide) (ce86 _) (in_lit (by decide)) (by decide) dX9_count_90 ?_
      exact r_iret (pc := 91) C dX9_count_91 h
    · skip
      by_cases e4 : x1 = 2
      · have h := h.2.2.1 e4
        refine r_tabIn (pc := 3) (off := 89) (tgt := 92) C 2 e4 dX9_count_3 (by decide) (by decide) (by decide) (by decide) ?_
        refine r_aload_n (pc := 92) C 1 dX9_count_92 rfl ?_
        refine r_get (pc := 93) (k := 85) (j := 0) (Cn := RX9) (T := TX9) (N := 21) C (by decide) (ce85 _) rfl iaX9 (by decide) aw103 rfl rfl dX9_count_93 ?_
        refine r_iconst (pc := 96) (v := 2) C dX9_count_96 (by decide) ?_
        refine q_iald (pc := 97) (k := 86) (n := 3528) (j := 2) C (by decide) (ce86 _) (in_lit (by decide)) (by decide) dX9_count_97 ?_
        exact r_iret (pc := 98) C dX9_count_98 h
      · skip
        by_cases e5 : x1 = 3
        · have h := h.2.2.2.1 e5
          refine r_tabIn (pc := 3) (off := 96) (tgt := 99) C 3 e5 dX9_count_3 (by decide) (by decide) (by decide) (by decide) ?_
          refine r_aload_n (pc := 99) C 1 dX9_count_99 rfl ?_
          refine r_get (pc := 100) (k := 85) (j := 0) (Cn := RX9) (T := TX9) (N := 21) C (by decide) (ce85 _) rfl iaX9 (by decide) aw103 rfl rfl dX9_count_100 ?_
          refine r_iconst (pc := 103) (v := 3) C dX9_count_103 (by decide) ?_
          refine q_iald (pc := 104) (k := 86) (n := 3528) (j := 3) C (by decide) (ce86 _) (in_lit (by decide)) (by decide) dX9_count_104 ?_
          exact r_iret (pc := 105) C dX9_count_105 h
        · skip
          by_cases e6 : x1 = 4
          · have h := h.2.2.2.2.1 e6
            refine r_tabIn (pc := 3) (off := 103) (tgt := 106) C 4 e6 dX9_count_3 (by decide) (by decide) (by decide) (by decide) ?_
            refine r_aload_n (pc := 106) C 1 dX9_count_106 rfl ?_
            refine r_get (pc := 107) (k := 85) (j := 0) (Cn := RX9) (T := TX9) (N := 21) C (by decide) (ce85 _) rfl iaX9 (by decide) aw103 rfl rfl dX9_count_107 ?_
            refine r_iconst (pc := 110) (v := 4) C dX9_count_110 (by decide) ?_
            refine q_iald (pc := 111) (k := 86) (n := 3528) (j := 4) C (by decide) (ce86 _) (in_lit (by decide)) (by decide) dX9_count_111 ?_
            exact r_iret (pc := 112) C dX9_count_112 h
          · skip
            by_cases e7 : x1 = 5
            · have h := h.2.2.2.2.2.1 e7
              refine r_tabIn (pc := 3) (off := 110) (tgt := 113) C 5 e7 dX9_count_3 (by decide) (by decide) (by decide) (by decide) ?_
              refine r_iconst (pc := 113) (v := 0) C dX9_count_113 (by decide) ?_
              refine r_istore_n (pc := 114) (lv2 := [(3, .int 0), (2, .int 0), (0, .ref (ad X 85)), (1, .int x1)]) C dX9_count_114 (by decide) rfl ?_
              obtain ⟨n8, h⟩ := h
              refine r_sub (lv2 := [(0, .ref (ad X 85)), (2, .int 0), (3, .int 0)]) [2, 1, 0] rfl ?_
              exact hL115  _ _ _ _ h
            · skip
              by_cases e9 : x1 = 6
              · have h := h.2.2.2.2.2.2.1 e9
                refine r_tabIn (pc := 3) (off := 134) (tgt := 137) C 6 e9 dX9_count_3 (by decide) (by decide) (by decide) (by decide) ?_
                refine r_aload_n (pc := 137) C 1 dX9_count_137 rfl ?_
                refine r_get (pc := 138) (k := 85) (j := 0) (Cn := RX9) (T := TX9) (N := 21) C (by decide) (ce85 _) rfl iaX9 (by decide) aw103 rfl rfl dX9_count_138 ?_
                refine r_iconst (pc := 141) (v := 5) C dX9_count_141 (by decide) ?_
                refine q_iald (pc := 142) (k := 86) (n := 3528) (j := 5) C (by decide) (ce86 _) (in_lit (by decide)) (by decide) dX9_count_142 ?_
                exact r_iret (pc := 143) C dX9_count_143 h
              · skip
                by_cases e10 : x1 = 7
                · have h := h.2.2.2.2.2.2.2.1 e10
                  refine r_tabIn (pc := 3) (off := 141) (tgt := 144) C 7 e10 dX9_count_3 (by decide) (by decide) (by decide) (by decide) ?_
                  refine r_aload_n (pc := 144) C 1 dX9_count_144 rfl ?_
                  refine r_get (pc := 145) (k := 85) (j := 1) (Cn := RX9) (T := TX9) (N := 21) C (by decide) (ce85 _) rfl iaX9 (by decide) aw325 rfl rfl dX9_count_145 ?_
                  exact r_iret (pc := 148) C dX9_count_148 h
                · skip
                  by_cases e11 : x1 = 8
                  · have h := h.2.2.2.2.2.2.2.2.1 e11
                    refine r_tabIn (pc := 3) (off := 146) (tgt := 149) C 8 e11 dX9_count_3 (by decide) (by decide) (by decide) (by decide) ?_
                    refine r_aload_n (pc := 149) C 1 dX9_count_149 rfl ?_
                    refine r_get (pc := 150) (k := 85) (j := 7) (Cn := RX9) (T := TX9) (N := 21) C (by decide) (ce85 _) rfl iaX9 (by decide) aw222 rfl rfl dX9_count_150 ?_
                    exact r_iret (pc := 153) C dX9_count_153 h
                  · skip
                    have h := h.2.2.2.2.2.2.2.2.2 e1 e3 e4 e5 e6 e7 e9 e10 e11
                    refine r_tabOut (pc := 3) (tgt := 154) C dX9_count_3 (by have ke1 := ne_toInt (n := 0) e1 (by decide); have ke3 := ne_toInt (n := 1) e3 (by decide); have ke4 := ne_toInt (n := 2) e4 (by decide); have ke5 := ne_toInt (n := 3) e5 (by decide); have ke6 := ne_toInt (n := 4) e6 (by decide); have ke7 := ne_toInt (n := 5) e7 (by decide); have ke9 := ne_toInt (n := 6) e9 (by decide); have ke10 := ne_toInt (n := 7) e10 (by decide); have ke11 := ne_toInt (n := 8) e11 (by decide); omega) (by decide) ?_
                    refine r_ldc (pc := 154) C aw142 dX9_count_154 ?_
                    exact r_iret (pc := 156) C dX9_count_156 h
theorem yd_X9_status : yX9_status.cls ≠ "java/lang/invoke/MethodHandle" ∧ yX9_status.cls ≠ "java/lang/invoke/VarHandle" ∧ (parseMethodDescriptor yX9_status.desc).map (fun d => d.parameters.length) = some 0 := by decide +kernel
def w_X9_status  (M : Mem)  (Q : Int32 → Mem → Prop) : Prop :=
  Q (M 85 9) M
abbrev rm_X9_status : Room := { frames := 3, cells := 0, slots := 0, locals := 60 }
set_option maxHeartbeats 4000000 in
set_option maxRecDepth 100000 in
theorem c_X9_status (X : Cx)  (M : Mem)  (Q : Int32 → Mem → Prop) (h : w_X9_status  M  Q) : Ct yX9_status cX9_status 1 (some .int) rm_X9_status X M [.ref (ad X 85)] (Qi X Q) := by
  refine ct_of (own := RX9) (lv := [(0, .ref (ad X 85))]) rfl (by decide) (Nat.le_of_ble_eq_true rfl) rfl ?_
  intro K C
  unfold w_X9_status at h
  refine r_aload_n (pc := 0) C 0 dX9_status_0 rfl ?_
  refine r_get (pc := 1) (k := 85) (j := 9) (Cn := RX9) (T := TX9) (N := 21) C (by decide) (ce85 _) rfl iaX9 (by decide) aw154 rfl rfl dX9_status_1 ?_
  exact r_iret (pc := 4) C dX9_status_4 h
