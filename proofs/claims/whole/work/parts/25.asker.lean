abbrev AGt : Type := Nat → Mem → Int32 → Int32 → Int32 → (Int32 → Mem → Prop) → Prop
def rmAG (n : Nat) : Room := { frames := 10 + n, cells := 0, slots := 0, locals := 200 + 60 * n }
def AGc (y : MethodName) (cc : ByteArray) (maxL n : Nat) (A : AGt) : Prop := ∀ (X : Cx) (k1 : Nat) (_ : kd k1 = 6) (M : Mem) (x2 x3 x4 : Int32) (Q : Int32 → Mem → Prop), A k1 M x2 x3 x4 Q → Ct y cc maxL (some .int) (rmAG n) X M [.ref (ad X 27), .ref (ad X k1), .int x2, .int x3, .int x4] (Qi X Q)
theorem yd_X1_answer : yX1_answer.cls ≠ "java/lang/invoke/MethodHandle" ∧ yX1_answer.cls ≠ "java/lang/invoke/VarHandle" ∧ (parseMethodDescriptor yX1_answer.desc).map (fun d => d.parameters.length) = some 4 := by decide +kernel
theorem yd_X1_give : yX1_give.cls ≠ "java/lang/invoke/MethodHandle" ∧ yX1_give.cls ≠ "java/lang/invoke/VarHandle" ∧ (parseMethodDescriptor yX1_give.desc).map (fun d => d.parameters.length) = some 4 := by decide +kernel
def wJ_X1_answer_47 (A G : AGt) (k1 : Nat) (Q : Int32 → Mem → Prop) (R11 : Mem → Int32 → Int32 → Int32 → Int32 → Int32 → Prop) (M : Mem) (x2 : Int32) (x3 : Int32) (x4 : Int32) (x5 : Int32) (x6 : Int32) (s0 : Int32) : Prop :=
  ((s0 = (-1000000)) → (vp_in x5 6 ∧ (∀ v3 : Int32, v3 = (tb 0 (Int32.toNatClampNeg x5)) → (∀ v4 : Int32, v4 = x6 + 1 → (R11 M x2 x3 x4 v3 v4))))) ∧ ((¬ s0 = (-1000000)) → (G k1 M x2 s0 (x4 + 1) (fun r6 M5 => Q r6 M5)))
def wB_X1_answer_11 (A G : AGt) (k1 : Nat) (Q : Int32 → Mem → Prop)  (R11 : Mem → Int32 → Int32 → Int32 → Int32 → Int32 → Prop) (M : Mem) (x2 : Int32) (x3 : Int32) (x4 : Int32) (x5 : Int32) (x6 : Int32) : Prop :=
  ((6 ≤ x6) → (Q (-1000000) M)) ∧ ((¬ 6 ≤ x6) → (w_X8_within  M x5 6 (fun r3 M2 => ((r3 = 0) → (Q (-1000000) M2)) ∧ ((¬ r3 = 0) → (((¬ x3 = 0) → (vp_in x5 6 ∧ (wJ_X1_answer_47 A G k1 Q R11 M2 x2 x3 x4 x5 x6 (tb 2 (Int32.toNatClampNeg x5))))) ∧ ((x3 = 0) → (vp_in x5 6 ∧ (wJ_X1_answer_47 A G k1 Q R11 M2 x2 x3 x4 x5 x6 (tb 1 (Int32.toNatClampNeg x5))))))))))
def wL_X1_answer_11 (A G : AGt) (k1 : Nat) (Q : Int32 → Mem → Prop)  : Nat → Mem → Int32 → Int32 → Int32 → Int32 → Int32 → Prop
  | 0 => fun _ _ _ _ _ _ => False
  | n + 1 => fun M x2 x3 x4 x5 x6 => wB_X1_answer_11 A G k1 Q  (wL_X1_answer_11 A G k1 Q  n) M x2 x3 x4 x5 x6
theorem wL_X1_answer_11_s {A G : AGt} {k1 : Nat} {Q : Int32 → Mem → Prop}  {n : Nat} {M : Mem} {x2 : Int32} {x3 : Int32} {x4 : Int32} {x5 : Int32} {x6 : Int32} (h : wL_X1_answer_11 A G k1 Q  (n + 1) M x2 x3 x4 x5 x6) : wB_X1_answer_11 A G k1 Q  (wL_X1_answer_11 A G k1 Q  n) M x2 x3 x4 x5 x6 := h
def w_X1_answer (A G : AGt) (k1 : Nat) (M : Mem) (x2 : Int32) (x3 : Int32) (x4 : Int32) (Q : Int32 → Mem → Prop) : Prop :=
  vp_in x2 6 ∧ (∀ v2 : Int32, v2 = (M (k1 + 3) (Int32.toNatClampNeg x2)) → (∃ n3 : Nat, wL_X1_answer_11 A G k1 Q  n3 M x2 x3 x4 v2 0))
set_option maxHeartbeats 4000000 in
set_option maxRecDepth 100000 in
theorem cA_X1_answer (A G : AGt) (nd : Nat) (hA : AGc yX1_answer cX1_answer 8 nd A) (hG : AGc yX1_give cX1_give 5 nd G) (X : Cx) (k1 : Nat) (h1 : kd k1 = 6) (M : Mem) (x2 : Int32) (x3 : Int32) (x4 : Int32) (Q : Int32 → Mem → Prop) (h : w_X1_answer A G k1 M x2 x3 x4 Q) : Ct yX1_answer cX1_answer 8 (some .int) (rmAG (nd + 1)) X M [.ref (ad X 27), .ref (ad X k1), .int x2, .int x3, .int x4] (Qi X Q) := by
  refine ct_of (own := RX1) (lv := [(0, .ref (ad X 27)), (1, .ref (ad X k1)), (2, .int x2), (3, .int x3), (4, .int x4)]) rfl (by decide) (Nat.le_of_ble_eq_true rfl) rfl ?_
  intro K C
  have hJ47 : ∀ (R11 : Mem → Int32 → Int32 → Int32 → Int32 → Int32 → Prop) (hR11 : ∀ (M : Mem) (x2 : Int32) (x3 : Int32) (x4 : Int32) (x5 : Int32) (x6 : Int32), R11 M x2 x3 x4 x5 x6 → WX K X 8 (Qi X Q) M 11 [(0, .ref (ad X 27)), (1, .ref (ad X k1)), (2, .int x2), (3, .int x3), (4, .int x4), (5, .int x5), (6, .int x6)] []) (M : Mem) (x2 : Int32) (x3 : Int32) (x4 : Int32) (x5 : Int32) (x6 : Int32) (s0 : Int32), wJ_X1_answer_47 A G k1 Q R11 M x2 x3 x4 x5 x6 s0 → WX K X 8 (Qi X Q) M 47 [(0, .ref (ad X 27)), (1, .ref (ad X k1)), (2, .int x2), (3, .int x3), (4, .int x4), (5, .int x5), (6, .int x6)] [.int s0] := by
    intro R11 hR11 M x2 x3 x4 x5 x6 s0 h
    unfold wJ_X1_answer_47 at h
    refine r_istore (pc := 47) (lv2 := [(7, .int s0), (0, .ref (ad X 27)), (1, .ref (ad X k1)), (2, .int x2), (3, .int x3), (4, .int x4), (5, .int x5), (6, .int x6)]) C dX1_answer_47 (by decide) rfl ?_
    refine r_iload (pc := 49) C 0 dX1_answer_49 rfl ?_
    refine r_ldc (pc := 51) C aw903 dX1_answer_51 ?_
    refine r_icmp_eq (pc := 53) (tgt := 69) C dX1_answer_53 (by decide) (fun c1 => ?_) (fun c1 => ?_)
    · have h := h.1 c1
      refine r_getsN (pc := 69) C 0 (by decide) nf46 dX1_answer_69 ?_
      refine r_iload (pc := 72) C 6 dX1_answer_72 rfl ?_
      obtain ⟨g2, h⟩ := h
      refine r_tald (pc := 74) C 0 (by decide) g2 dX1_answer_74 ?_
      refine r_topi (fun v3 ev3 => ?_)
      replace h := h v3 ev3
      refine r_istore (pc := 75) (lv2 := [(5, .int v3), (7, .int s0), (0, .ref (ad X 27)), (1, .ref (ad X k1)), (2, .int x2), (3, .int x3), (4, .int x4), (6, .int x6)]) C dX1_answer_75 (by decide) rfl ?_
      obtain ⟨v4, ev4⟩ : ∃ z : Int32, z = x6 + 1 := ⟨_, rfl⟩
      replace h := h v4 ev4
      refine r_iinc (pc := 77) (v := v4) (lv2 := [(6, .int v4), (5, .int v3), (7, .int s0), (0, .ref (ad X 27)), (1, .ref (ad X k1)), (2, .int x2), (3, .int x3), (4, .int x4)]) C 7 dX1_answer_77 rfl (by rw [ev4]; rfl) (by decide) rfl ?_
      refine r_goto (pc := 80) (tgt := 11) C dX1_answer_80 (by decide) ?_
      refine r_sub (lv2 := [(0, .ref (ad X 27)), (1, .ref (ad X k1)), (2, .int x2), (3, .int x3), (4, .int x4), (5, .int v3), (6, .int v4)]) [3, 4, 5, 6, 7, 1, 0] rfl ?_
      exact hR11 _ _ _ _ _ _ h
    · have h := h.2 c1
      refine r_aload_n (pc := 56) C 1 dX1_answer_56 rfl ?_
      refine r_aload_n (pc := 57) C 2 dX1_answer_57 rfl ?_
      refine r_iload_n (pc := 58) C 3 dX1_answer_58 rfl ?_
      refine r_iload (pc := 59) C 0 dX1_answer_59 rfl ?_
      refine r_iload (pc := 61) C 5 dX1_answer_61 rfl ?_
      refine r_iconst (pc := 63) (v := 1) C dX1_answer_63 (by decide) ?_
      refine r_iadd (pc := 64) C dX1_answer_64 ?_
      have hM := hG X k1 h1 M x2 s0 (x4 + 1) _ h
      refine q_s0 (s1 := List.reverse [.ref (ad X k1), .int x2, .int s0, .int (x4 + 1)] ++ .ref (ad X 27) :: []) rfl ?_
      refine r_callVi (pc := 65) (k := 27) (As := [.ref (ad X k1), .int x2, .int s0, .int (x4 + 1)]) (st := []) C 4 (by decide) (ce27 _) rfl aw905 aw906 hM aw904 aw907 aw24 yd_X1_give ⟨rfl, rfl⟩ ⟨by show 10 + nd + 1 ≤ 10 + (nd + 1); omega, by show 8 + (5 + 11) + (200 + 60 * nd) ≤ 200 + 60 * (nd + 1); omega⟩ rfl (Nat.le_of_ble_eq_true rfl) dX1_answer_65 (fun r6 M5 h => ?_)
      exact r_iret (pc := 68) C dX1_answer_68 h
  have hL11 : ∀  (n : Nat) (M : Mem) (x2 : Int32) (x3 : Int32) (x4 : Int32) (x5 : Int32) (x6 : Int32), wL_X1_answer_11 A G k1 Q  n M x2 x3 x4 x5 x6 → WX K X 8 (Qi X Q) M 11 [(0, .ref (ad X 27)), (1, .ref (ad X k1)), (2, .int x2), (3, .int x3), (4, .int x4), (5, .int x5), (6, .int x6)] [] := by
    intro  n
    induction n with
    | zero => intro M x2 x3 x4 x5 x6 h; exact absurd h id
    | succ n ih =>
      intro M x2 x3 x4 x5 x6 h
      replace h := wL_X1_answer_11_s h
      unfold wB_X1_answer_11 at h
      refine r_iload (pc := 11) C 6 dX1_answer_11 rfl ?_
      refine r_bipush (pc := 13) (v := 6) C dX1_answer_13 (by decide) ?_
      refine r_icmp_ge (pc := 15) (tgt := 83) C dX1_answer_15 (by decide) (fun c1 => ?_) (fun c1 => ?_)
      · have h := h.1 c1
        refine r_ldc (pc := 83) C aw903 dX1_answer_83 ?_
        exact r_iret (pc := 85) C dX1_answer_85 h
      · have h := h.2 c1
        refine r_iload (pc := 18) C 5 dX1_answer_18 rfl ?_
        refine r_bipush (pc := 20) (v := 6) C dX1_answer_20 (by decide) ?_
        have hM := c_X8_within X  M x5 6 _ h
        refine q_s0 (s1 := List.reverse [.int x5, .int 6] ++ []) rfl ?_
        refine r_callSNi (pc := 22) (As := [.int x5, .int 6]) (st := []) C 2 hM nm59 aw117 aw118 aw2 yd_X8_within ⟨rfl, rfl⟩ ⟨by show 3 + 1 ≤ 10 + (nd + 1); omega, by show 8 + (2 + 11) + 60 ≤ 200 + 60 * (nd + 1); omega⟩ rfl (Nat.le_of_ble_eq_true rfl) dX1_answer_22 (fun r3 M2 h => ?_)
        refine r_if_eq (pc := 25) (tgt := 83) C dX1_answer_25 (by decide) (fun c4 => ?_) (fun c4 => ?_)
        · have h := h.1 c4
          refine r_ldc (pc := 83) C aw903 dX1_answer_83 ?_
          exact r_iret (pc := 85) C dX1_answer_85 h
        · have h := h.2 c4
          refine r_iload_n (pc := 28) C 3 dX1_answer_28 rfl ?_
          refine r_if_ne (pc := 29) (tgt := 41) C dX1_answer_29 (by decide) (fun c5 => ?_) (fun c5 => ?_)
          · have h := h.1 c5
            refine r_gets (pc := 41) C 2 (by decide) aw902 dX1_answer_41 ?_
            refine r_iload (pc := 44) C 5 dX1_answer_44 rfl ?_
            obtain ⟨g6, h⟩ := h
            refine r_tald (pc := 46) C 2 (by decide) g6 dX1_answer_46 ?_
            refine r_sub (lv2 := [(0, .ref (ad X 27)), (1, .ref (ad X k1)), (2, .int x2), (3, .int x3), (4, .int x4), (5, .int x5), (6, .int x6)]) [0, 1, 2, 3, 4, 5, 6] rfl ?_
            exact hJ47 _ ih _ _ _ _ _ _ _ h
          · have h := h.2 c5
            refine r_gets (pc := 32) C 1 (by decide) aw901 dX1_answer_32 ?_
            refine r_iload (pc := 35) C 5 dX1_answer_35 rfl ?_
            obtain ⟨g7, h⟩ := h
            refine r_tald (pc := 37) C 1 (by decide) g7 dX1_answer_37 ?_
            refine r_goto (pc := 38) (tgt := 47) C dX1_answer_38 (by decide) ?_
            refine r_sub (lv2 := [(0, .ref (ad X 27)), (1, .ref (ad X k1)), (2, .int x2), (3, .int x3), (4, .int x4), (5, .int x5), (6, .int x6)]) [0, 1, 2, 3, 4, 5, 6] rfl ?_
            exact hJ47 _ ih _ _ _ _ _ _ _ h
  unfold w_X1_answer at h
  refine r_aload_n (pc := 0) C 1 dX1_answer_0 rfl ?_
  refine r_getN (pc := 1) (k := k1) (j := 8) (Cn := RX6) (T := TX6) (N := 16) C (bdT h1) (ceT h1 _) rfl iaX6 (by decide) nf24 rfl rfl dX1_answer_1 ?_
  refine r_iload_n (pc := 4) C 2 dX1_answer_4 rfl ?_
  obtain ⟨g1, h⟩ := h
  refine q_iald (pc := 5) (k := (k1 + 3)) (n := 6) (j := (Int32.toNatClampNeg x2)) C (bdT3 h1) (ceT3 h1 _) g1 rfl dX1_answer_5 ?_
  refine r_topi (fun v2 ev2 => ?_)
  replace h := h v2 ev2
  refine r_istore (pc := 6) (lv2 := [(5, .int v2), (0, .ref (ad X 27)), (1, .ref (ad X k1)), (2, .int x2), (3, .int x3), (4, .int x4)]) C dX1_answer_6 (by decide) rfl ?_
  refine r_iconst (pc := 8) (v := 0) C dX1_answer_8 (by decide) ?_
  refine r_istore (pc := 9) (lv2 := [(6, .int 0), (5, .int v2), (0, .ref (ad X 27)), (1, .ref (ad X k1)), (2, .int x2), (3, .int x3), (4, .int x4)]) C dX1_answer_9 (by decide) rfl ?_
  obtain ⟨n3, h⟩ := h
  refine r_sub (lv2 := [(0, .ref (ad X 27)), (1, .ref (ad X k1)), (2, .int x2), (3, .int x3), (4, .int x4), (5, .int v2), (6, .int 0)]) [2, 3, 4, 5, 6, 1, 0] rfl ?_
  exact hL11  _ _ _ _ _ _ _ h
def w_X1_give (A G : AGt) (k1 : Nat) (M : Mem) (x2 : Int32) (x3 : Int32) (x4 : Int32) (Q : Int32 → Mem → Prop) : Prop :=
  ((x4 ≤ 16) → (w_X1_leave  M x3 (fun M2 => (x3 = 10 → (w_X6_timesOf k1 M2 x2 (fun r6 M5 => Q r6 M5))) ∧ (x3 = 11 → (G k1 M2 x2 10 (x4 + 1) (fun r9 M8 => A k1 M8 x2 1 (x4 + 1) (fun r11 M10 => Q (r9 + r11) M10)))) ∧ (x3 = 12 → (G k1 M2 x2 11 (x4 + 1) (fun r14 M13 => Q (0 - r14) M13))) ∧ (x3 = 13 → (G k1 M2 x2 10 (x4 + 1) (fun r17 M16 => Q (r17 - 100) M16))) ∧ (x3 = 14 → (G k1 M2 x2 13 (x4 + 1) (fun r20 M19 => Q (2 * r20) M19))) ∧ (x3 = 15 → (Q (-1000000) M2)) ∧ (x3 = 16 → (Q (-1000000) M2)) ∧ (x3 = 17 → (Q (-1000000) M2)) ∧ (x3 = 18 → (Q (-1000000) M2)) ∧ (x3 = 19 → (Q (-1000000) M2)) ∧ (x3 = 20 → (Q x2 M2)) ∧ (x3 = 21 → (G k1 M2 x2 20 (x4 + 1) (fun r29 M28 => vp_in x2 6 ∧ (Q (r29 + (M28 (k1 + 5) (Int32.toNatClampNeg x2))) M28)))) ∧ (x3 = 22 → (G k1 M2 x2 21 (x4 + 1) (fun r33 M32 => Q (r33 - 1000) M32))) ∧ (x3 = 23 → (G k1 M2 x2 20 (x4 + 1) (fun r36 M35 => A k1 M35 x2 0 (x4 + 1) (fun r38 M37 => Q (r36 - r38) M37)))) ∧ (x3 = 24 → (G k1 M2 x2 21 (x4 + 1) (fun r41 M40 => Q (2 * r41) M40))) ∧ (¬ x3 = 10 → ¬ x3 = 11 → ¬ x3 = 12 → ¬ x3 = 13 → ¬ x3 = 14 → ¬ x3 = 15 → ¬ x3 = 16 → ¬ x3 = 17 → ¬ x3 = 18 → ¬ x3 = 19 → ¬ x3 = 20 → ¬ x3 = 21 → ¬ x3 = 22 → ¬ x3 = 23 → ¬ x3 = 24 → (Q (-1000000) M2))))) ∧ ((¬ x4 ≤ 16) → (Q (-1000000) M))
set_option maxHeartbeats 4000000 in
set_option maxRecDepth 100000 in
theorem cA_X1_give (A G : AGt) (nd : Nat) (hA : AGc yX1_answer cX1_answer 8 nd A) (hG : AGc yX1_give cX1_give 5 nd G) (X : Cx) (k1 : Nat) (h1 : kd k1 = 6) (M : Mem) (x2 : Int32) (x3 : Int32) (x4 : Int32) (Q : Int32 → Mem → Prop) (h : w_X1_give A G k1 M x2 x3 x4 Q) : Ct yX1_give cX1_give 5 (some .int) (rmAG (nd + 1)) X M [.ref (ad X 27), .ref (ad X k1), .int x2, .int x3, .int x4] (Qi X Q) := by
  refine ct_of (own := RX1) (lv := [(0, .ref (ad X 27)), (1, .ref (ad X k1)), (2, .int x2), (3, .int x3), (4, .int x4)]) rfl (by decide) (Nat.le_of_ble_eq_true rfl) rfl ?_
  intro K C
  unfold w_X1_give at h
  refine r_iload (pc := 0) C 4 dX1_give_0 rfl ?_
  refine r_bipush (pc := 2) (v := 16) C dX1_give_2 (by decide) ?_
  refine r_icmp_le (pc := 4) (tgt := 10) C dX1_give_4 (by decide) (fun c1 => ?_) (fun c1 => ?_)
  · have h := h.1 c1
    refine r_aload_n (pc := 10) C 0 dX1_give_10 rfl ?_
    refine r_iload_n (pc := 11) C 3 dX1_give_11 rfl ?_
    have hM := c_X1_leave X  M x3 _ h
    refine q_s0 (s1 := List.reverse [.int x3] ++ .ref (ad X 27) :: []) rfl ?_
    refine r_callVv (pc := 12) (k := 27) (As := [.int x3]) (st := []) C 1 (by decide) (ce27 _) rfl aw909 aw910 hM aw908 aw911 aw24 yd_X1_leave ⟨rfl, rfl⟩ ⟨by show 3 + 1 ≤ 10 + (nd + 1); omega, by show 8 + (2 + 11) + 60 ≤ 200 + 60 * (nd + 1); omega⟩ rfl (Nat.le_of_ble_eq_true rfl) dX1_give_12 (fun M2 h => ?_)
    refine r_iload_n (pc := 15) C 3 dX1_give_15 rfl ?_
    by_cases e4 : x3 = 10
    · have h := h.1 e4
      refine r_tabIn (pc := 16) (off := 76) (tgt := 92) C 10 e4 dX1_give_16 (by decide) (by decide) (by decide) (by decide) ?_
      refine r_aload_n (pc := 92) C 1 dX1_give_92 rfl ?_
      refine r_iload_n (pc := 93) C 2 dX1_give_93 rfl ?_
      have hM := c_X6_timesOf X k1 h1 M2 x2 _ h
      refine q_s0 (s1 := List.reverse [.int x2] ++ .ref (ad X k1) :: []) rfl ?_
      refine r_callVNi (pc := 94) (k := k1) (As := [.int x2]) (st := []) C 1 (bdT h1) (ceT h1 _) rfl aw583 aw584 hM nm60 aw585 aw28 yd_X6_timesOf ⟨rfl, rfl⟩ ⟨by show 6 + 1 ≤ 10 + (nd + 1); omega, by show 8 + (4 + 11) + 120 ≤ 200 + 60 * (nd + 1); omega⟩ rfl (Nat.le_of_ble_eq_true rfl) dX1_give_94 (fun r6 M5 h => ?_)
      exact r_iret (pc := 97) C dX1_give_97 h
    · skip
      by_cases e7 : x3 = 11
      · have h := h.2.1 e7
        refine r_tabIn (pc := 16) (off := 82) (tgt := 98) C 11 e7 dX1_give_16 (by decide) (by decide) (by decide) (by decide) ?_
        refine r_aload_n (pc := 98) C 0 dX1_give_98 rfl ?_
        refine r_aload_n (pc := 99) C 1 dX1_give_99 rfl ?_
        refine r_iload_n (pc := 100) C 2 dX1_give_100 rfl ?_
        refine r_bipush (pc := 101) (v := 10) C dX1_give_101 (by decide) ?_
        refine r_iload (pc := 103) C 4 dX1_give_103 rfl ?_
        refine r_iconst (pc := 105) (v := 1) C dX1_give_105 (by decide) ?_
        refine r_iadd (pc := 106) C dX1_give_106 ?_
        have hM := hG X k1 h1 M2 x2 10 (x4 + 1) _ h
        refine q_s0 (s1 := List.reverse [.ref (ad X k1), .int x2, .int 10, .int (x4 + 1)] ++ .ref (ad X 27) :: []) rfl ?_
        refine r_callVi (pc := 107) (k := 27) (As := [.ref (ad X k1), .int x2, .int 10, .int (x4 + 1)]) (st := []) C 4 (by decide) (ce27 _) rfl aw905 aw906 hM aw904 aw907 aw24 yd_X1_give ⟨rfl, rfl⟩ ⟨by show 10 + nd + 1 ≤ 10 + (nd + 1); omega, by show 8 + (5 + 11) + (200 + 60 * nd) ≤ 200 + 60 * (nd + 1); omega⟩ rfl (Nat.le_of_ble_eq_true rfl) dX1_give_107 (fun r9 M8 h => ?_)
        refine r_aload_n (pc := 110) C 0 dX1_give_110 rfl ?_
        refine r_aload_n (pc := 111) C 1 dX1_give_111 rfl ?_
        refine r_iload_n (pc := 112) C 2 dX1_give_112 rfl ?_
        refine r_iconst (pc := 113) (v := 1) C dX1_give_113 (by decide) ?_
        refine r_iload (pc := 114) C 4 dX1_give_114 rfl ?_
        refine r_iconst (pc := 116) (v := 1) C dX1_give_116 (by decide) ?_
        refine r_iadd (pc := 117) C dX1_give_117 ?_
        have hM := hA X k1 h1 M8 x2 1 (x4 + 1) _ h
        refine q_s0 (s1 := List.reverse [.ref (ad X k1), .int x2, .int 1, .int (x4 + 1)] ++ .ref (ad X 27) :: [.int r9]) rfl ?_
        refine r_callVi (pc := 118) (k := 27) (As := [.ref (ad X k1), .int x2, .int 1, .int (x4 + 1)]) (st := [.int r9]) C 4 (by decide) (ce27 _) rfl aw898 aw899 hM aw913 aw900 aw24 yd_X1_answer ⟨rfl, rfl⟩ ⟨by show 10 + nd + 1 ≤ 10 + (nd + 1); omega, by show 8 + (8 + 11) + (200 + 60 * nd) ≤ 200 + 60 * (nd + 1); omega⟩ rfl (Nat.le_of_ble_eq_true rfl) dX1_give_118 (fun r11 M10 h => ?_)
        refine r_iadd (pc := 121) C dX1_give_121 ?_
        exact r_iret (pc := 122) C dX1_give_122 h
      · skip
        by_cases e12 : x3 = 12
        · have h := h.2.2.1 e12
          refine r_tabIn (pc := 16) (off := 107) (tgt := 123) C 12 e12 dX1_give_16 (by decide) (by decide) (by decide) (by decide) ?_
          refine r_iconst (pc := 123) (v := 0) C dX1_give_123 (by decide) ?_
          refine r_aload_n (pc := 124) C 0 dX1_give_124 rfl ?_
          refine r_aload_n (pc := 125) C 1 dX1_give_125 rfl ?_
          refine r_iload_n (pc := 126) C 2 dX1_give_126 rfl ?_
          refine r_bipush (pc := 127) (v := 11) C dX1_give_127 (by decide) ?_
          refine r_iload (pc := 129) C 4 dX1_give_129 rfl ?_
          refine r_iconst (pc := 131) (v := 1) C dX1_give_131 (by decide) ?_
          refine r_iadd (pc := 132) C dX1_give_132 ?_
          have hM := hG X k1 h1 M2 x2 11 (x4 + 1) _ h
          refine q_s0 (s1 := List.reverse [.ref (ad X k1), .int x2, .int 11, .int (x4 + 1)] ++ .ref (ad X 27) :: [.int 0]) rfl ?_
          refine r_callVi (pc := 133) (k := 27) (As := [.ref (ad X k1), .int x2, .int 11, .int (x4 + 1)]) (st := [.int 0]) C 4 (by decide) (ce27 _) rfl aw905 aw906 hM aw904 aw907 aw24 yd_X1_give ⟨rfl, rfl⟩ ⟨by show 10 + nd + 1 ≤ 10 + (nd + 1); omega, by show 8 + (5 + 11) + (200 + 60 * nd) ≤ 200 + 60 * (nd + 1); omega⟩ rfl (Nat.le_of_ble_eq_true rfl) dX1_give_133 (fun r14 M13 h => ?_)
          refine r_isub (pc := 136) C dX1_give_136 ?_
          exact r_iret (pc := 137) C dX1_give_137 h
        · skip
          by_cases e15 : x3 = 13
          · have h := h.2.2.2.1 e15
            refine r_tabIn (pc := 16) (off := 122) (tgt := 138) C 13 e15 dX1_give_16 (by decide) (by decide) (by decide) (by decide) ?_
            refine r_aload_n (pc := 138) C 0 dX1_give_138 rfl ?_
            refine r_aload_n (pc := 139) C 1 dX1_give_139 rfl ?_
            refine r_iload_n (pc := 140) C 2 dX1_give_140 rfl ?_
            refine r_bipush (pc := 141) (v := 10) C dX1_give_141 (by decide) ?_
            refine r_iload (pc := 143) C 4 dX1_give_143 rfl ?_
            refine r_iconst (pc := 145) (v := 1) C dX1_give_145 (by decide) ?_
            refine r_iadd (pc := 146) C dX1_give_146 ?_
            have hM := hG X k1 h1 M2 x2 10 (x4 + 1) _ h
            refine q_s0 (s1 := List.reverse [.ref (ad X k1), .int x2, .int 10, .int (x4 + 1)] ++ .ref (ad X 27) :: []) rfl ?_
            refine r_callVi (pc := 147) (k := 27) (As := [.ref (ad X k1), .int x2, .int 10, .int (x4 + 1)]) (st := []) C 4 (by decide) (ce27 _) rfl aw905 aw906 hM aw904 aw907 aw24 yd_X1_give ⟨rfl, rfl⟩ ⟨by show 10 + nd + 1 ≤ 10 + (nd + 1); omega, by show 8 + (5 + 11) + (200 + 60 * nd) ≤ 200 + 60 * (nd + 1); omega⟩ rfl (Nat.le_of_ble_eq_true rfl) dX1_give_147 (fun r17 M16 h => ?_)
            refine r_bipush (pc := 150) (v := 100) C dX1_give_150 (by decide) ?_
            refine r_isub (pc := 152) C dX1_give_152 ?_
            exact r_iret (pc := 153) C dX1_give_153 h
          · skip
            by_cases e18 : x3 = 14
            · have h := h.2.2.2.2.1 e18
              refine r_tabIn (pc := 16) (off := 138) (tgt := 154) C 14 e18 dX1_give_16 (by decide) (by decide) (by decide) (by decide) ?_
              refine r_iconst (pc := 154) (v := 2) C dX1_give_154 (by decide) ?_
              refine r_aload_n (pc := 155) C 0 dX1_give_155 rfl ?_
              refine r_aload_n (pc := 156) C 1 dX1_give_156 rfl ?_
              refine r_iload_n (pc := 157) C 2 dX1_give_157 rfl ?_
              refine r_bipush (pc := 158) (v := 13) C dX1_give_158 (by decide) ?_
              refine r_iload (pc := 160) C 4 dX1_give_160 rfl ?_
              refine r_iconst (pc := 162) (v := 1) C dX1_give_162 (by decide) ?_
              refine r_iadd (pc := 163) C dX1_give_163 ?_
              have hM := hG X k1 h1 M2 x2 13 (x4 + 1) _ h
              refine q_s0 (s1 := List.reverse [.ref (ad X k1), .int x2, .int 13, .int (x4 + 1)] ++ .ref (ad X 27) :: [.int 2]) rfl ?_
              refine r_callVi (pc := 164) (k := 27) (As := [.ref (ad X k1), .int x2, .int 13, .int (x4 + 1)]) (st := [.int 2]) C 4 (by decide) (ce27 _) rfl aw905 aw906 hM aw904 aw907 aw24 yd_X1_give ⟨rfl, rfl⟩ ⟨by show 10 + nd + 1 ≤ 10 + (nd + 1); omega, by show 8 + (5 + 11) + (200 + 60 * nd) ≤ 200 + 60 * (nd + 1); omega⟩ rfl (Nat.le_of_ble_eq_true rfl) dX1_give_164 (fun r20 M19 h => ?_)
              refine r_imul (pc := 167) C dX1_give_167 ?_
              exact r_iret (pc := 168) C dX1_give_168 h
            · skip
              by_cases e21 : x3 = 15
              · have h := h.2.2.2.2.2.1 e21
                refine r_tabIn (pc := 16) (off := 232) (tgt := 248) C 15 e21 dX1_give_16 (by decide) (by decide) (by decide) (by decide) ?_
                refine r_ldc (pc := 248) C aw903 dX1_give_248 ?_
                exact r_iret (pc := 250) C dX1_give_250 h
              · skip
                by_cases e22 : x3 = 16
                · have h := h.2.2.2.2.2.2.1 e22
                  refine r_tabIn (pc := 16) (off := 232) (tgt := 248) C 16 e22 dX1_give_16 (by decide) (by decide) (by decide) (by decide) ?_
                  refine r_ldc (pc := 248) C aw903 dX1_give_248 ?_
                  exact r_iret (pc := 250) C dX1_give_250 h
                · skip
                  by_cases e23 : x3 = 17
                  · have h := h.2.2.2.2.2.2.2.1 e23
                    refine r_tabIn (pc := 16) (off := 232) (tgt := 248) C 17 e23 dX1_give_16 (by decide) (by decide) (by decide) (by decide) ?_
                    refine r_ldc (pc := 248) C aw903 dX1_give_248 ?_
                    exact r_iret (pc := 250) C dX1_give_250 h
                  · skip
                    by_cases e24 : x3 = 18
                    · have h := h.2.2.2.2.2.2.2.2.1 e24
                      refine r_tabIn (pc := 16) (off := 232) (tgt := 248) C 18 e24 dX1_give_16 (by decide) (by decide) (by decide) (by decide) ?_
                      refine r_ldc (pc := 248) C aw903 dX1_give_248 ?_
                      exact r_iret (pc := 250) C dX1_give_250 h
                    · skip
                      by_cases e25 : x3 = 19
                      · have h := h.2.2.2.2.2.2.2.2.2.1 e25
                        refine r_tabIn (pc := 16) (off := 232) (tgt := 248) C 19 e25 dX1_give_16 (by decide) (by decide) (by decide) (by decide) ?_
                        refine r_ldc (pc := 248) C aw903 dX1_give_248 ?_
                        exact r_iret (pc := 250) C dX1_give_250 h
                      · skip
                        by_cases e26 : x3 = 20
                        · have h := h.2.2.2.2.2.2.2.2.2.2.1 e26
                          refine r_tabIn (pc := 16) (off := 153) (tgt := 169) C 20 e26 dX1_give_16 (by decide) (by decide) (by decide) (by decide) ?_
                          refine r_iload_n (pc := 169) C 2 dX1_give_169 rfl ?_
                          exact r_iret (pc := 170) C dX1_give_170 h
                        · skip
                          by_cases e27 : x3 = 21
                          · have h := h.2.2.2.2.2.2.2.2.2.2.2.1 e27
                            refine r_tabIn (pc := 16) (off := 155) (tgt := 171) C 21 e27 dX1_give_16 (by decide) (by decide) (by decide) (by decide) ?_
                            refine r_aload_n (pc := 171) C 0 dX1_give_171 rfl ?_
                            refine r_aload_n (pc := 172) C 1 dX1_give_172 rfl ?_
                            refine r_iload_n (pc := 173) C 2 dX1_give_173 rfl ?_
                            refine r_bipush (pc := 174) (v := 20) C dX1_give_174 (by decide) ?_
                            refine r_iload (pc := 176) C 4 dX1_give_176 rfl ?_
                            refine r_iconst (pc := 178) (v := 1) C dX1_give_178 (by decide) ?_
                            refine r_iadd (pc := 179) C dX1_give_179 ?_
                            have hM := hG X k1 h1 M2 x2 20 (x4 + 1) _ h
                            refine q_s0 (s1 := List.reverse [.ref (ad X k1), .int x2, .int 20, .int (x4 + 1)] ++ .ref (ad X 27) :: []) rfl ?_
                            refine r_callVi (pc := 180) (k := 27) (As := [.ref (ad X k1), .int x2, .int 20, .int (x4 + 1)]) (st := []) C 4 (by decide) (ce27 _) rfl aw905 aw906 hM aw904 aw907 aw24 yd_X1_give ⟨rfl, rfl⟩ ⟨by show 10 + nd + 1 ≤ 10 + (nd + 1); omega, by show 8 + (5 + 11) + (200 + 60 * nd) ≤ 200 + 60 * (nd + 1); omega⟩ rfl (Nat.le_of_ble_eq_true rfl) dX1_give_180 (fun r29 M28 h => ?_)
                            refine r_aload_n (pc := 183) C 1 dX1_give_183 rfl ?_
                            refine r_getN (pc := 184) (k := k1) (j := 10) (Cn := RX6) (T := TX6) (N := 16) C (bdT h1) (ceT h1 _) rfl iaX6 (by decide) nf27 rfl rfl dX1_give_184 ?_
                            refine r_iload_n (pc := 187) C 2 dX1_give_187 rfl ?_
                            obtain ⟨g30, h⟩ := h
                            refine q_iald (pc := 188) (k := (k1 + 5)) (n := 6) (j := (Int32.toNatClampNeg x2)) C (bdT5 h1) (ceT5 h1 _) g30 rfl dX1_give_188 ?_
                            refine r_iadd (pc := 189) C dX1_give_189 ?_
                            exact r_iret (pc := 190) C dX1_give_190 h
                          · skip
                            by_cases e31 : x3 = 22
                            · have h := h.2.2.2.2.2.2.2.2.2.2.2.2.1 e31
                              refine r_tabIn (pc := 16) (off := 175) (tgt := 191) C 22 e31 dX1_give_16 (by decide) (by decide) (by decide) (by decide) ?_
                              refine r_aload_n (pc := 191) C 0 dX1_give_191 rfl ?_
                              refine r_aload_n (pc := 192) C 1 dX1_give_192 rfl ?_
                              refine r_iload_n (pc := 193) C 2 dX1_give_193 rfl ?_
                              refine r_bipush (pc := 194) (v := 21) C dX1_give_194 (by decide) ?_
                              refine r_iload (pc := 196) C 4 dX1_give_196 rfl ?_
                              refine r_iconst (pc := 198) (v := 1) C dX1_give_198 (by decide) ?_
                              refine r_iadd (pc := 199) C dX1_give_199 ?_
                              have hM := hG X k1 h1 M2 x2 21 (x4 + 1) _ h
                              refine q_s0 (s1 := List.reverse [.ref (ad X k1), .int x2, .int 21, .int (x4 + 1)] ++ .ref (ad X 27) :: []) rfl ?_
                              refine r_callVi (pc := 200) (k := 27) (As := [.ref (ad X k1), .int x2, .int 21, .int (x4 + 1)]) (st := []) C 4 (by decide) (ce27 _) rfl aw905 aw906 hM aw904 aw907 aw24 yd_X1_give ⟨rfl, rfl⟩ ⟨by show 10 + nd + 1 ≤ 10 + (nd + 1); omega, by show 8 + (5 + 11) + (200 + 60 * nd) ≤ 200 + 60 * (nd + 1); omega⟩ rfl (Nat.le_of_ble_eq_true rfl) dX1_give_200 (fun r33 M32 h => ?_)
                              refine r_sipush (pc := 203) (v := 1000) C dX1_give_203 (by decide) ?_
                              refine r_isub (pc := 206) C dX1_give_206 ?_
                              exact r_iret (pc := 207) C dX1_give_207 h
                            · skip
                              by_cases e34 : x3 = 23
                              · have h := h.2.2.2.2.2.2.2.2.2.2.2.2.2.1 e34
                                refine r_tabIn (pc := 16) (off := 192) (tgt := 208) C 23 e34 dX1_give_16 (by decide) (by decide) (by decide) (by decide) ?_
                                refine r_aload_n (pc := 208) C 0 dX1_give_208 rfl ?_
                                refine r_aload_n (pc := 209) C 1 dX1_give_209 rfl ?_
                                refine r_iload_n (pc := 210) C 2 dX1_give_210 rfl ?_
                                refine r_bipush (pc := 211) (v := 20) C dX1_give_211 (by decide) ?_
                                refine r_iload (pc := 213) C 4 dX1_give_213 rfl ?_
                                refine r_iconst (pc := 215) (v := 1) C dX1_give_215 (by decide) ?_
                                refine r_iadd (pc := 216) C dX1_give_216 ?_
                                have hM := hG X k1 h1 M2 x2 20 (x4 + 1) _ h
                                refine q_s0 (s1 := List.reverse [.ref (ad X k1), .int x2, .int 20, .int (x4 + 1)] ++ .ref (ad X 27) :: []) rfl ?_
                                refine r_callVi (pc := 217) (k := 27) (As := [.ref (ad X k1), .int x2, .int 20, .int (x4 + 1)]) (st := []) C 4 (by decide) (ce27 _) rfl aw905 aw906 hM aw904 aw907 aw24 yd_X1_give ⟨rfl, rfl⟩ ⟨by show 10 + nd + 1 ≤ 10 + (nd + 1); omega, by show 8 + (5 + 11) + (200 + 60 * nd) ≤ 200 + 60 * (nd + 1); omega⟩ rfl (Nat.le_of_ble_eq_true rfl) dX1_give_217 (fun r36 M35 h => ?_)
                                refine r_aload_n (pc := 220) C 0 dX1_give_220 rfl ?_
                                refine r_aload_n (pc := 221) C 1 dX1_give_221 rfl ?_
                                refine r_iload_n (pc := 222) C 2 dX1_give_222 rfl ?_
                                refine r_iconst (pc := 223) (v := 0) C dX1_give_223 (by decide) ?_
                                refine r_iload (pc := 224) C 4 dX1_give_224 rfl ?_
                                refine r_iconst (pc := 226) (v := 1) C dX1_give_226 (by decide) ?_
                                refine r_iadd (pc := 227) C dX1_give_227 ?_
                                have hM := hA X k1 h1 M35 x2 0 (x4 + 1) _ h
                                refine q_s0 (s1 := List.reverse [.ref (ad X k1), .int x2, .int 0, .int (x4 + 1)] ++ .ref (ad X 27) :: [.int r36]) rfl ?_
                                refine r_callVi (pc := 228) (k := 27) (As := [.ref (ad X k1), .int x2, .int 0, .int (x4 + 1)]) (st := [.int r36]) C 4 (by decide) (ce27 _) rfl aw898 aw899 hM aw913 aw900 aw24 yd_X1_answer ⟨rfl, rfl⟩ ⟨by show 10 + nd + 1 ≤ 10 + (nd + 1); omega, by show 8 + (8 + 11) + (200 + 60 * nd) ≤ 200 + 60 * (nd + 1); omega⟩ rfl (Nat.le_of_ble_eq_true rfl) dX1_give_228 (fun r38 M37 h => ?_)
                                refine r_isub (pc := 231) C dX1_give_231 ?_
                                exact r_iret (pc := 232) C dX1_give_232 h
                              · skip
                                by_cases e39 : x3 = 24
                                · have h := h.2.2.2.2.2.2.2.2.2.2.2.2.2.2.1 e39
                                  refine r_tabIn (pc := 16) (off := 217) (tgt := 233) C 24 e39 dX1_give_16 (by decide) (by decide) (by decide) (by decide) ?_
                                  refine r_iconst (pc := 233) (v := 2) C dX1_give_233 (by decide) ?_
                                  refine r_aload_n (pc := 234) C 0 dX1_give_234 rfl ?_
                                  refine r_aload_n (pc := 235) C 1 dX1_give_235 rfl ?_
                                  refine r_iload_n (pc := 236) C 2 dX1_give_236 rfl ?_
                                  refine r_bipush (pc := 237) (v := 21) C dX1_give_237 (by decide) ?_
                                  refine r_iload (pc := 239) C 4 dX1_give_239 rfl ?_
                                  refine r_iconst (pc := 241) (v := 1) C dX1_give_241 (by decide) ?_
                                  refine r_iadd (pc := 242) C dX1_give_242 ?_
                                  have hM := hG X k1 h1 M2 x2 21 (x4 + 1) _ h
                                  refine q_s0 (s1 := List.reverse [.ref (ad X k1), .int x2, .int 21, .int (x4 + 1)] ++ .ref (ad X 27) :: [.int 2]) rfl ?_
                                  refine r_callVi (pc := 243) (k := 27) (As := [.ref (ad X k1), .int x2, .int 21, .int (x4 + 1)]) (st := [.int 2]) C 4 (by decide) (ce27 _) rfl aw905 aw906 hM aw904 aw907 aw24 yd_X1_give ⟨rfl, rfl⟩ ⟨by show 10 + nd + 1 ≤ 10 + (nd + 1); omega, by show 8 + (5 + 11) + (200 + 60 * nd) ≤ 200 + 60 * (nd + 1); omega⟩ rfl (Nat.le_of_ble_eq_true rfl) dX1_give_243 (fun r41 M40 h => ?_)
                                  refine r_imul (pc := 246) C dX1_give_246 ?_
                                  exact r_iret (pc := 247) C dX1_give_247 h
                                · skip
                                  have h := h.2.2.2.2.2.2.2.2.2.2.2.2.2.2.2 e4 e7 e12 e15 e18 e21 e22 e23 e24 e25 e26 e27 e31 e34 e39
                                  refine r_tabOut (pc := 16) (tgt := 248) C dX1_give_16 (by have ke4 := ne_toInt (n := 10) e4 (by decide); have ke7 := ne_toInt (n := 11) e7 (by decide); have ke12 := ne_toInt (n := 12) e12 (by decide); have ke15 := ne_toInt (n := 13) e15 (by decide); have ke18 := ne_toInt (n := 14) e18 (by decide); have ke21 := ne_toInt (n := 15) e21 (by decide); have ke22 := ne_toInt (n := 16) e22 (by decide); have ke23 := ne_toInt (n := 17) e23 (by decide); have ke24 := ne_toInt (n := 18) e24 (by decide); have ke25 := ne_toInt (n := 19) e25 (by decide); have ke26 := ne_toInt (n := 20) e26 (by decide); have ke27 := ne_toInt (n := 21) e27 (by decide); have ke31 := ne_toInt (n := 22) e31 (by decide); have ke34 := ne_toInt (n := 23) e34 (by decide); have ke39 := ne_toInt (n := 24) e39 (by decide); omega) (by decide) ?_
                                  refine r_ldc (pc := 248) C aw903 dX1_give_248 ?_
                                  exact r_iret (pc := 250) C dX1_give_250 h
  · have h := h.2 c1
    refine r_ldc (pc := 7) C aw903 dX1_give_7 ?_
    exact r_iret (pc := 9) C dX1_give_9 h
def w_AG : Nat → AGt × AGt
  | 0 => (fun _ _ _ _ _ _ => False, fun _ _ _ _ _ _ => False)
  | n + 1 => (fun k M a b c Q => w_X1_answer (w_AG n).1 (w_AG n).2 k M a b c Q, fun k M a b c Q => w_X1_give (w_AG n).1 (w_AG n).2 k M a b c Q)
theorem c_AG (n : Nat) : AGc yX1_answer cX1_answer 8 n (w_AG n).1 ∧ AGc yX1_give cX1_give 5 n (w_AG n).2 := by
  induction n with
  | zero => exact ⟨fun _ _ _ _ _ _ _ _ h => absurd h id, fun _ _ _ _ _ _ _ _ h => absurd h id⟩
  | succ n ih => exact ⟨fun X k1 h1 M a b c Q h => cA_X1_answer _ _ n ih.1 ih.2 X k1 h1 M a b c Q h, fun X k1 h1 M a b c Q h => cA_X1_give _ _ n ih.1 ih.2 X k1 h1 M a b c Q h⟩
theorem yd_X8_ask : yX8_ask.cls ≠ "java/lang/invoke/MethodHandle" ∧ yX8_ask.cls ≠ "java/lang/invoke/VarHandle" ∧ (parseMethodDescriptor yX8_ask.desc).map (fun d => d.parameters.length) = some 2 := by decide +kernel
def w_X8_ask  (M : Mem) (x1 : Int32) (x2 : Int32) (Q : Int32 → Mem → Prop) : Prop :=
  w_X8_isPerson  M x1 (fun r2 M1 => ((r2 = 0) → (Q (-1000001) M1)) ∧ ((¬ r2 = 0) → (w_X8_within  M1 x2 2 (fun r5 M4 => ((¬ r5 = 0) → (∀ M7 : Mem, M7 = ms M4 27 1 0 → ((w_AG 20).1 41 M7 x1 x2 0 (fun r9 M8 => Q r9 M8)))) ∧ ((r5 = 0) → (Q (-1000001) M4))))))
abbrev rm_X8_ask : Room := { frames := 78, cells := 0, slots := 0, locals := 1560 }
set_option maxHeartbeats 4000000 in
set_option maxRecDepth 100000 in
theorem c_X8_ask (X : Cx)  (M : Mem) (x1 : Int32) (x2 : Int32) (Q : Int32 → Mem → Prop) (h : w_X8_ask  M x1 x2 Q) : Ct yX8_ask cX8_ask 3 (some .int) rm_X8_ask X M [.ref (ad X 0), .int x1, .int x2] (Qi X Q) := by
  refine ct_of (own := RX8) (lv := [(0, .ref (ad X 0)), (1, .int x1), (2, .int x2)]) rfl (by decide) (Nat.le_of_ble_eq_true rfl) rfl ?_
  intro K C
  unfold w_X8_ask at h
  refine r_aload_n (pc := 0) C 0 dX8_ask_0 rfl ?_
  refine r_iload_n (pc := 1) C 1 dX8_ask_1 rfl ?_
  have hM := c_X8_isPerson X  M x1 _ h
  refine q_s0 (s1 := List.reverse [.int x1] ++ .ref (ad X 0) :: []) rfl ?_
  refine r_callVi (pc := 2) (k := 0) (As := [.int x1]) (st := []) C 1 (by decide) (ce0 _) rfl aw414 aw415 hM aw413 aw416 aw2 yd_X8_isPerson ⟨rfl, rfl⟩ ⟨Nat.le_of_ble_eq_true rfl, Nat.le_of_ble_eq_true rfl⟩ rfl (Nat.le_of_ble_eq_true rfl) dX8_ask_2 (fun r2 M1 h => ?_)
  refine r_if_eq (pc := 5) (tgt := 16) C dX8_ask_5 (by decide) (fun c3 => ?_) (fun c3 => ?_)
  · have h := h.1 c3
    refine r_ldc (pc := 16) C aw115 dX8_ask_16 ?_
    exact r_iret (pc := 18) C dX8_ask_18 h
  · have h := h.2 c3
    refine r_iload_n (pc := 8) C 2 dX8_ask_8 rfl ?_
    refine r_iconst (pc := 9) (v := 2) C dX8_ask_9 (by decide) ?_
    have hM := c_X8_within X  M1 x2 2 _ h
    refine q_s0 (s1 := List.reverse [.int x2, .int 2] ++ []) rfl ?_
    refine r_callSi (pc := 10) (As := [.int x2, .int 2]) (st := []) C 2 hM aw116 aw117 aw118 aw2 yd_X8_within ⟨rfl, rfl⟩ ⟨Nat.le_of_ble_eq_true rfl, Nat.le_of_ble_eq_true rfl⟩ rfl (Nat.le_of_ble_eq_true rfl) dX8_ask_10 (fun r5 M4 h => ?_)
    refine r_if_ne (pc := 13) (tgt := 19) C dX8_ask_13 (by decide) (fun c6 => ?_) (fun c6 => ?_)
    · have h := h.1 c6
      refine r_aload_n (pc := 19) C 0 dX8_ask_19 rfl ?_
      refine r_get (pc := 20) (k := 0) (j := 3) (Cn := RX8) (T := TX8) (N := 12) C (by decide) (ce0 _) rfl iaX8 (by decide) aw25 rfl rfl dX8_ask_20 ?_
      refine r_iconst (pc := 23) (v := 0) C dX8_ask_23 (by decide) ?_
      refine r_putN (pc := 24) (k := 27) (j := 1) (Cn := RX1) (T := TX1) (N := 2) C (by decide) (ce27 _) rfl iaX1 (by decide) (ce27 _) tyX1_ok nmX1 nf5 rfl rfl (tyX1_ok 1 (by decide)) (Nat.le_of_ble_eq_true rfl) dX8_ask_24 ?_
      refine r_topM (fun M7 eM7 => ?_)
      replace h := h M7 eM7
      refine r_aload_n (pc := 27) C 0 dX8_ask_27 rfl ?_
      refine r_get (pc := 28) (k := 0) (j := 3) (Cn := RX8) (T := TX8) (N := 12) C (by decide) (ce0 _) rfl iaX8 (by decide) aw25 rfl rfl dX8_ask_28 ?_
      refine r_aload_n (pc := 31) C 0 dX8_ask_31 rfl ?_
      refine r_get (pc := 32) (k := 0) (j := 4) (Cn := RX8) (T := TX8) (N := 12) C (by decide) (ce0 _) rfl iaX8 (by decide) aw29 rfl rfl dX8_ask_32 ?_
      refine r_iload_n (pc := 35) C 1 dX8_ask_35 rfl ?_
      refine r_iload_n (pc := 36) C 2 dX8_ask_36 rfl ?_
      refine r_iconst (pc := 37) (v := 0) C dX8_ask_37 (by decide) ?_
      have hM := (c_AG 20).1 X 41 (show kd 41 = 6 from rfl) M7 x1 x2 0 _ h
      refine q_s0 (s1 := List.reverse [.ref (ad X 41), .int x1, .int x2, .int 0] ++ .ref (ad X 27) :: []) rfl ?_
      refine r_callVNi (pc := 38) (k := 27) (As := [.ref (ad X 41), .int x1, .int x2, .int 0]) (st := []) C 4 (by decide) (ce27 _) rfl aw898 aw899 hM nm58 aw900 aw24 yd_X1_answer ⟨rfl, rfl⟩ ⟨Nat.le_of_ble_eq_true rfl, Nat.le_of_ble_eq_true rfl⟩ rfl (Nat.le_of_ble_eq_true rfl) dX8_ask_38 (fun r9 M8 h => ?_)
      exact r_iret (pc := 41) C dX8_ask_41 h
    · have h := h.2 c6
      refine r_ldc (pc := 16) C aw115 dX8_ask_16 ?_
      exact r_iret (pc := 18) C dX8_ask_18 h
