set_option maxHeartbeats 8000000 in
set_option maxRecDepth 100000 in
theorem ci_X8 (X : Cx) : CtI yX8_init cX8_init 2 rmIX8 X 8 [.null, .null, .null, .null, .null, .null, .null, .null, .null, .null, .int 0, .int 0] (BkX8 X) 84 1264 := by
  refine ci_of (own := RX8) rfl (by decide +kernel) (fun _ => (Nat.le_of_ble_eq_true rfl)) rfl (fun K A h0 C I => ?_)
  refine n_aload C 0 dX8_init_0 rfl ?_
  refine n_objI C aw9 (Nat.le_of_ble_eq_true rfl) (Nat.le_of_ble_eq_true rfl) dX8_init_1 ?_
  refine n_aload C 0 dX8_init_4 rfl ?_
  refine n_bipush (v := 8) C dX8_init_5 (by decide) ?_
  refine n_newq (N := 8) (z := 2) (Cn := "DoorVotes$Row") C rfl aw12 (fun U h => h.2.2.1) (by decide) (by decide) (by decide) (Nat.le_of_ble_eq_true rfl) (Nat.le_of_ble_eq_true rfl) dX8_init_7 (fun qr => ?_)
  refine n_ws (ws2 := (h0, .inr (8, [.null, .null, .null, .null, .null, .null, .null, .null, .null, .null, .int 0, .int 0])) :: [(qr, .inl (cy X 2, 8, .inr (.inr (.inr (.inr (fun _ => none))))))]) rfl ?_
  refine n_putF C I (fs2 := [.ref qr, .null, .null, .null, .null, .null, .null, .null, .null, .null, .int 0, .int 0]) 0 tyX8 iaX8 tyX8_ok nmX8 rfl (by decide) aw13 rfl rfl rfl rfl (Nat.le_of_ble_eq_true rfl) rfl dX8_init_10 ?_
  refine n_aload C 0 dX8_init_13 rfl ?_
  refine n_newI C tyX3 (ci_X3 X) rfl iaX3 tyX3_ok aw14 aw15 aw16 (fun j hj => by rcases (show j = 0 ∨ j = 1 ∨ j = 2 ∨ j = 3 ∨ j = 4 ∨ j = 5 by omega) with rfl | rfl | rfl | rfl | rfl | rfl <;> rfl) nm0 aw47 aw46 rfl ⟨by decide +kernel, by decide +kernel, by decide +kernel⟩ ⟨rfl, rfl⟩ ⟨(Nat.le_of_ble_eq_true rfl), (Nat.le_of_ble_eq_true rfl)⟩ (fun q => (Nat.le_of_ble_eq_true rfl)) (Nat.le_of_ble_eq_true rfl) (Nat.le_of_ble_eq_true rfl) dX8_init_14 dX8_init_17 dX8_init_18 (fun r1 => ?_)
  refine n_ws (ws2 := (h0, .inr (8, [.ref qr, .null, .null, .null, .null, .null, .null, .null, .null, .null, .int 0, .int 0])) :: ([(qr, .inl (cy X 2, 8, .inr (.inr (.inr (.inr (fun _ => none))))))] ++ BkX3 X r1)) rfl ?_
  refine n_putF C I (fs2 := [.ref qr, .ref (r1 0), .null, .null, .null, .null, .null, .null, .null, .null, .int 0, .int 0]) 1 tyX8 iaX8 tyX8_ok nmX8 rfl (by decide) aw17 rfl rfl rfl rfl (Nat.le_of_ble_eq_true rfl) rfl dX8_init_21 ?_
  refine n_aload C 0 dX8_init_24 rfl ?_
  refine n_newI C tyX0 (ci_X0 X) rfl iaX0 tyX0_ok aw18 aw19 aw20 (fun j hj => by rcases (show j = 0 ∨ j = 1 ∨ j = 2 ∨ j = 3 ∨ j = 4 ∨ j = 5 ∨ j = 6 by omega) with rfl | rfl | rfl | rfl | rfl | rfl | rfl <;> rfl) nm1 aw52 aw51 rfl ⟨by decide +kernel, by decide +kernel, by decide +kernel⟩ ⟨rfl, rfl⟩ ⟨(Nat.le_of_ble_eq_true rfl), (Nat.le_of_ble_eq_true rfl)⟩ (fun q => (Nat.le_of_ble_eq_true rfl)) (Nat.le_of_ble_eq_true rfl) (Nat.le_of_ble_eq_true rfl) dX8_init_25 dX8_init_28 dX8_init_29 (fun r2 => ?_)
  refine n_ws (ws2 := (h0, .inr (8, [.ref qr, .ref (r1 0), .null, .null, .null, .null, .null, .null, .null, .null, .int 0, .int 0])) :: (([(qr, .inl (cy X 2, 8, .inr (.inr (.inr (.inr (fun _ => none))))))] ++ BkX3 X r1) ++ BkX0 X r2)) rfl ?_
  refine n_putF C I (fs2 := [.ref qr, .ref (r1 0), .ref (r2 0), .null, .null, .null, .null, .null, .null, .null, .int 0, .int 0]) 2 tyX8 iaX8 tyX8_ok nmX8 rfl (by decide) aw21 rfl rfl rfl rfl (Nat.le_of_ble_eq_true rfl) rfl dX8_init_32 ?_
  refine n_aload C 0 dX8_init_35 rfl ?_
  refine n_newI C tyX1 (ci_X1 X) rfl iaX1 tyX1_ok aw22 aw23 aw24 (fun j hj => by rcases (show j = 0 ∨ j = 1 by omega) with rfl | rfl <;> rfl) nm2 aw60 aw59 rfl ⟨by decide +kernel, by decide +kernel, by decide +kernel⟩ ⟨rfl, rfl⟩ ⟨(Nat.le_of_ble_eq_true rfl), (Nat.le_of_ble_eq_true rfl)⟩ (fun q => (Nat.le_of_ble_eq_true rfl)) (Nat.le_of_ble_eq_true rfl) (Nat.le_of_ble_eq_true rfl) dX8_init_36 dX8_init_39 dX8_init_40 (fun r3 => ?_)
  refine n_ws (ws2 := (h0, .inr (8, [.ref qr, .ref (r1 0), .ref (r2 0), .null, .null, .null, .null, .null, .null, .null, .int 0, .int 0])) :: ((([(qr, .inl (cy X 2, 8, .inr (.inr (.inr (.inr (fun _ => none))))))] ++ BkX3 X r1) ++ BkX0 X r2) ++ BkX1 X r3)) rfl ?_
  refine n_putF C I (fs2 := [.ref qr, .ref (r1 0), .ref (r2 0), .ref (r3 0), .null, .null, .null, .null, .null, .null, .int 0, .int 0]) 3 tyX8 iaX8 tyX8_ok nmX8 rfl (by decide) aw25 rfl rfl rfl rfl (Nat.le_of_ble_eq_true rfl) rfl dX8_init_43 ?_
  refine n_aload C 0 dX8_init_46 rfl ?_
  refine n_newI C tyX6 (ci_X6 X) rfl iaX6 tyX6_ok aw26 aw27 aw28 (fun j hj => by rcases (show j = 0 ∨ j = 1 ∨ j = 2 ∨ j = 3 ∨ j = 4 ∨ j = 5 ∨ j = 6 ∨ j = 7 ∨ j = 8 ∨ j = 9 ∨ j = 10 ∨ j = 11 ∨ j = 12 ∨ j = 13 ∨ j = 14 ∨ j = 15 by omega) with rfl | rfl | rfl | rfl | rfl | rfl | rfl | rfl | rfl | rfl | rfl | rfl | rfl | rfl | rfl | rfl <;> rfl) nm3 aw64 aw63 rfl ⟨by decide +kernel, by decide +kernel, by decide +kernel⟩ ⟨rfl, rfl⟩ ⟨(Nat.le_of_ble_eq_true rfl), (Nat.le_of_ble_eq_true rfl)⟩ (fun q => (Nat.le_of_ble_eq_true rfl)) (Nat.le_of_ble_eq_true rfl) (Nat.le_of_ble_eq_true rfl) dX8_init_47 dX8_init_50 dX8_init_51 (fun r4 => ?_)
  refine n_ws (ws2 := (h0, .inr (8, [.ref qr, .ref (r1 0), .ref (r2 0), .ref (r3 0), .null, .null, .null, .null, .null, .null, .int 0, .int 0])) :: (((([(qr, .inl (cy X 2, 8, .inr (.inr (.inr (.inr (fun _ => none))))))] ++ BkX3 X r1) ++ BkX0 X r2) ++ BkX1 X r3) ++ BkX6 X r4)) rfl ?_
  refine n_putF C I (fs2 := [.ref qr, .ref (r1 0), .ref (r2 0), .ref (r3 0), .ref (r4 0), .null, .null, .null, .null, .null, .int 0, .int 0]) 4 tyX8 iaX8 tyX8_ok nmX8 rfl (by decide) aw29 rfl rfl rfl rfl (Nat.le_of_ble_eq_true rfl) rfl dX8_init_54 ?_
  refine n_aload C 0 dX8_init_57 rfl ?_
  refine n_newI C tyX6 (ci_X6 X) rfl iaX6 tyX6_ok aw26 aw27 aw28 (fun j hj => by rcases (show j = 0 ∨ j = 1 ∨ j = 2 ∨ j = 3 ∨ j = 4 ∨ j = 5 ∨ j = 6 ∨ j = 7 ∨ j = 8 ∨ j = 9 ∨ j = 10 ∨ j = 11 ∨ j = 12 ∨ j = 13 ∨ j = 14 ∨ j = 15 by omega) with rfl | rfl | rfl | rfl | rfl | rfl | rfl | rfl | rfl | rfl | rfl | rfl | rfl | rfl | rfl | rfl <;> rfl) nm3 aw64 aw63 rfl ⟨by decide +kernel, by decide +kernel, by decide +kernel⟩ ⟨rfl, rfl⟩ ⟨(Nat.le_of_ble_eq_true rfl), (Nat.le_of_ble_eq_true rfl)⟩ (fun q => (Nat.le_of_ble_eq_true rfl)) (Nat.le_of_ble_eq_true rfl) (Nat.le_of_ble_eq_true rfl) dX8_init_58 dX8_init_61 dX8_init_62 (fun r5 => ?_)
  refine n_ws (ws2 := (h0, .inr (8, [.ref qr, .ref (r1 0), .ref (r2 0), .ref (r3 0), .ref (r4 0), .null, .null, .null, .null, .null, .int 0, .int 0])) :: ((((([(qr, .inl (cy X 2, 8, .inr (.inr (.inr (.inr (fun _ => none))))))] ++ BkX3 X r1) ++ BkX0 X r2) ++ BkX1 X r3) ++ BkX6 X r4) ++ BkX6 X r5)) rfl ?_
  refine n_putF C I (fs2 := [.ref qr, .ref (r1 0), .ref (r2 0), .ref (r3 0), .ref (r4 0), .ref (r5 0), .null, .null, .null, .null, .int 0, .int 0]) 5 tyX8 iaX8 tyX8_ok nmX8 rfl (by decide) aw30 rfl rfl rfl rfl (Nat.le_of_ble_eq_true rfl) rfl dX8_init_65 ?_
  refine n_aload C 0 dX8_init_68 rfl ?_
  refine n_iconst (v := 2) C dX8_init_69 (by decide) ?_
  refine n_newq (N := 2) (z := 3) (Cn := "DoorVotes$Town") C rfl aw26 (fun U h => h.2.2.2) (by decide) (by decide) (by decide) (Nat.le_of_ble_eq_true rfl) (Nat.le_of_ble_eq_true rfl) dX8_init_70 (fun qi => ?_)
  refine n_ws (ws2 := (h0, .inr (8, [.ref qr, .ref (r1 0), .ref (r2 0), .ref (r3 0), .ref (r4 0), .ref (r5 0), .null, .null, .null, .null, .int 0, .int 0])) :: (((((([(qr, .inl (cy X 2, 8, .inr (.inr (.inr (.inr (fun _ => none))))))] ++ BkX3 X r1) ++ BkX0 X r2) ++ BkX1 X r3) ++ BkX6 X r4) ++ BkX6 X r5) ++ [(qi, .inl (cy X 3, 2, .inr (.inr (.inr (.inr (fun _ => none))))))])) rfl ?_
  refine n_putF C I (fs2 := [.ref qr, .ref (r1 0), .ref (r2 0), .ref (r3 0), .ref (r4 0), .ref (r5 0), .ref qi, .null, .null, .null, .int 0, .int 0]) 6 tyX8 iaX8 tyX8_ok nmX8 rfl (by decide) aw31 rfl rfl rfl rfl (Nat.le_of_ble_eq_true rfl) rfl dX8_init_73 ?_
  refine n_aload C 0 dX8_init_76 rfl ?_
  refine n_newI C tyX2 (ci_X2 X) rfl iaX2 tyX2_ok aw32 aw33 aw34 (fun j hj => by rcases (show j = 0 ∨ j = 1 ∨ j = 2 by omega) with rfl | rfl | rfl <;> rfl) nm4 aw77 aw76 rfl ⟨by decide +kernel, by decide +kernel, by decide +kernel⟩ ⟨rfl, rfl⟩ ⟨(Nat.le_of_ble_eq_true rfl), (Nat.le_of_ble_eq_true rfl)⟩ (fun q => (Nat.le_of_ble_eq_true rfl)) (Nat.le_of_ble_eq_true rfl) (Nat.le_of_ble_eq_true rfl) dX8_init_77 dX8_init_80 dX8_init_81 (fun r6 => ?_)
  refine n_ws (ws2 := (h0, .inr (8, [.ref qr, .ref (r1 0), .ref (r2 0), .ref (r3 0), .ref (r4 0), .ref (r5 0), .ref qi, .null, .null, .null, .int 0, .int 0])) :: ((((((([(qr, .inl (cy X 2, 8, .inr (.inr (.inr (.inr (fun _ => none))))))] ++ BkX3 X r1) ++ BkX0 X r2) ++ BkX1 X r3) ++ BkX6 X r4) ++ BkX6 X r5) ++ [(qi, .inl (cy X 3, 2, .inr (.inr (.inr (.inr (fun _ => none))))))]) ++ BkX2 X r6)) rfl ?_
  refine n_putF C I (fs2 := [.ref qr, .ref (r1 0), .ref (r2 0), .ref (r3 0), .ref (r4 0), .ref (r5 0), .ref qi, .ref (r6 0), .null, .null, .int 0, .int 0]) 7 tyX8 iaX8 tyX8_ok nmX8 rfl (by decide) aw35 rfl rfl rfl rfl (Nat.le_of_ble_eq_true rfl) rfl dX8_init_84 ?_
  refine n_aload C 0 dX8_init_87 rfl ?_
  refine n_newI C tyX7 (ci_X7 X) rfl iaX7 tyX7_ok aw36 aw37 aw38 (fun j hj => by rcases (show j = 0 ∨ j = 1 ∨ j = 2 ∨ j = 3 ∨ j = 4 by omega) with rfl | rfl | rfl | rfl | rfl <;> rfl) nm5 aw82 aw81 rfl ⟨by decide +kernel, by decide +kernel, by decide +kernel⟩ ⟨rfl, rfl⟩ ⟨(Nat.le_of_ble_eq_true rfl), (Nat.le_of_ble_eq_true rfl)⟩ (fun q => (Nat.le_of_ble_eq_true rfl)) (Nat.le_of_ble_eq_true rfl) (Nat.le_of_ble_eq_true rfl) dX8_init_88 dX8_init_91 dX8_init_92 (fun r7 => ?_)
  refine n_ws (ws2 := (h0, .inr (8, [.ref qr, .ref (r1 0), .ref (r2 0), .ref (r3 0), .ref (r4 0), .ref (r5 0), .ref qi, .ref (r6 0), .null, .null, .int 0, .int 0])) :: (((((((([(qr, .inl (cy X 2, 8, .inr (.inr (.inr (.inr (fun _ => none))))))] ++ BkX3 X r1) ++ BkX0 X r2) ++ BkX1 X r3) ++ BkX6 X r4) ++ BkX6 X r5) ++ [(qi, .inl (cy X 3, 2, .inr (.inr (.inr (.inr (fun _ => none))))))]) ++ BkX2 X r6) ++ BkX7 X r7)) rfl ?_
  refine n_putF C I (fs2 := [.ref qr, .ref (r1 0), .ref (r2 0), .ref (r3 0), .ref (r4 0), .ref (r5 0), .ref qi, .ref (r6 0), .ref (r7 0), .null, .int 0, .int 0]) 8 tyX8 iaX8 tyX8_ok nmX8 rfl (by decide) aw39 rfl rfl rfl rfl (Nat.le_of_ble_eq_true rfl) rfl dX8_init_95 ?_
  refine n_aload C 0 dX8_init_98 rfl ?_
  refine n_newI C tyX5 (ci_X5 X) rfl iaX5 tyX5_ok aw40 aw41 aw42 (fun j hj => by rcases (show j = 0 ∨ j = 1 ∨ j = 2 ∨ j = 3 ∨ j = 4 ∨ j = 5 by omega) with rfl | rfl | rfl | rfl | rfl | rfl <;> rfl) nm6 aw89 aw88 rfl ⟨by decide +kernel, by decide +kernel, by decide +kernel⟩ ⟨rfl, rfl⟩ ⟨(Nat.le_of_ble_eq_true rfl), (Nat.le_of_ble_eq_true rfl)⟩ (fun q => (Nat.le_of_ble_eq_true rfl)) (Nat.le_of_ble_eq_true rfl) (Nat.le_of_ble_eq_true rfl) dX8_init_99 dX8_init_102 dX8_init_103 (fun r8 => ?_)
  refine n_ws (ws2 := (h0, .inr (8, [.ref qr, .ref (r1 0), .ref (r2 0), .ref (r3 0), .ref (r4 0), .ref (r5 0), .ref qi, .ref (r6 0), .ref (r7 0), .null, .int 0, .int 0])) :: ((((((((([(qr, .inl (cy X 2, 8, .inr (.inr (.inr (.inr (fun _ => none))))))] ++ BkX3 X r1) ++ BkX0 X r2) ++ BkX1 X r3) ++ BkX6 X r4) ++ BkX6 X r5) ++ [(qi, .inl (cy X 3, 2, .inr (.inr (.inr (.inr (fun _ => none))))))]) ++ BkX2 X r6) ++ BkX7 X r7) ++ BkX5 X r8)) rfl ?_
  refine n_putF C I (fs2 := [.ref qr, .ref (r1 0), .ref (r2 0), .ref (r3 0), .ref (r4 0), .ref (r5 0), .ref qi, .ref (r6 0), .ref (r7 0), .ref (r8 0), .int 0, .int 0]) 9 tyX8 iaX8 tyX8_ok nmX8 rfl (by decide) aw43 rfl rfl rfl rfl (Nat.le_of_ble_eq_true rfl) rfl dX8_init_106 ?_
  refine n_iconst (v := 0) C dX8_init_109 (by decide) ?_
  refine n_sub (ws2 := (h0, .inr (8, [.ref qr, .ref (r1 0), .ref (r2 0), .ref (r3 0), .ref (r4 0), .ref (r5 0), .ref qi, .ref (r6 0), .ref (r7 0), .ref (r8 0), .int 0, .int 0])) :: (qr, .inl (cy X 2, 8, .inr (.inr (.inr (.inr (fun _ => none)))))) :: (qi, .inl (cy X 3, 2, .inr (.inr (.inr (.inr (fun _ => none)))))) :: (((((((BkX3 X r1 ++ BkX0 X r2) ++ BkX1 X r3) ++ BkX6 X r4) ++ BkX6 X r5) ++ BkX2 X r6) ++ BkX7 X r7) ++ BkX5 X r8)) [0, 1, 34, 2, 3, 4, 5, 6, 7, 8, 9, 10, 11, 12, 13, 14, 15, 16, 17, 18, 19, 20, 21, 22, 23, 24, 25, 26, 27, 28, 29, 30, 31, 32, 33, 35, 36, 37, 38, 39, 40, 41, 42, 43, 44, 45, 46] (by decide) rfl ?_
  refine n_istore (lv2 := [(1, .int (nI 0)), (0, .ref h0)]) C dX8_init_110 (by decide) rfl ?_
  refine dv_row C (by decide) (by decide) (by decide) rfl (fun r9 => ?_)
  refine dv_row C (by decide) (by decide) (by decide) rfl (fun r10 => ?_)
  refine dv_row C (by decide) (by decide) (by decide) rfl (fun r11 => ?_)
  refine dv_row C (by decide) (by decide) (by decide) rfl (fun r12 => ?_)
  refine dv_row C (by decide) (by decide) (by decide) rfl (fun r13 => ?_)
  refine dv_row C (by decide) (by decide) (by decide) rfl (fun r14 => ?_)
  refine dv_row C (by decide) (by decide) (by decide) rfl (fun r15 => ?_)
  refine dv_row C (by decide) (by decide) (by decide) rfl (fun r16 => ?_)
  refine n_iload C 0 dX8_init_111 rfl ?_
  refine n_bipush (v := 8) C dX8_init_112 (by decide) ?_
  refine n_ge1 (tgt := 136) C dX8_init_114 (by decide) (by decide) ?_
  refine n_iconst (v := 0) C dX8_init_136 (by decide) ?_
  refine n_istore (lv2 := [(1, .int (nI 0)), (0, .ref h0)]) C dX8_init_137 (by decide) rfl ?_
  refine dv_img C (by decide) (by decide) (by decide) rfl (fun r17 => ?_)
  refine dv_img C (by decide) (by decide) (by decide) rfl (fun r18 => ?_)
  refine n_iload C 0 dX8_init_138 rfl ?_
  refine n_iconst (v := 2) C dX8_init_139 (by decide) ?_
  refine n_ge1 (tgt := 162) C dX8_init_140 (by decide) (by decide) ?_
  exact dv_end C I qr qi r1 r2 r3 r4 r5 r6 r7 r8 r9 r10 r11 r12 r13 r14 r15 r16 r17 r18
