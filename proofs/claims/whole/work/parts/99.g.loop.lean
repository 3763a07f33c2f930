theorem and63 (x : Int32) : ∃ j, j < 64 ∧ x &&& 63 = nI j := by
  have e : x = nI x.toBitVec.toNat := by
    apply Int32.toBitVec_inj.1
    show x.toBitVec = BitVec.ofNat 32 x.toBitVec.toNat
    simp
  have h := fa_mask x.toBitVec.toNat 6
  rw [← e] at h
  exact ⟨x.toBitVec.toNat % 2 ^ 6, Nat.mod_lt _ (by decide), h⟩
theorem sub7 {L i : Nat} (hL : L ≤ 3584) (hi : i ≤ L) (h : ¬ nI L - 7 < nI i) : i + 7 ≤ L := by
  by_cases h7 : 7 ≤ L
  · rw [show (7 : Int32) = nI 7 from rfl, pk_sub h7] at h
    have h2 : ¬ L - 7 < i := fun e => h ((nI_ltI (by omega) (by omega)).mpr e)
    omega
  · exfalso
    refine h ?_
    have hi2 : i < 7 := by omega
    have hL2 : L < 7 := by omega
    have key : ∀ a, a < 7 → ∀ c, c < 7 → nI a - 7 < nI c := by decide
    exact key L hL2 i hi2
set_option maxHeartbeats 4000000 in
set_option maxRecDepth 20000 in
theorem law_loop {K : Kt} {X : Cx} {Qg : State → Prop} {cl sl b L : Nat} {xs : Nat → Int32} (C : KL K X cl sl b L xs) (hL : L ≤ 3584) (fin : ∀ (M : Mem) (i : Nat), WL K X Qg cl sl M 1325 (lvL X b i) []) : ∀ (n i : Nat) (M : Mem), i ≤ L → L < i + 7 * n → IV M → WL K X Qg cl sl M 18 (lvL X b i) [] := by
  intro n
  induction n with
  | zero => intro i M h1 h2; omega
  | succ n ih =>
    intro i M h1 h2 hI
    obtain ⟨p, l, e, R, s, m, args, below, meth, c⟩ := K
    obtain ⟨hx, hb, hml, hown, hts, hF, hR, hX, hbl, hA, hc1, hc2⟩ := id C
    intro H locs ls hP hS hl
    refine lv_iload_n hx hb dL_law_18 rfl (lv_at hl 0 rfl) ?_
    refine lv_aload_n hx hb dL_law_19 rfl (lv_at hl 1 rfl) ?_
    refine va_slen hx hb hX hbl (Nat.not_le.mpr hbl) hS dL_law_20 ?_
    refine lv_bipush (v := 7) hx hb dL_law_21 (by decide) ?_
    refine lv_isub hx hb dL_law_23 ?_
    refine lv_icmp_gt (tgt := 1325) hx hb dL_law_24 (by decide) (fun z => ?_) (fun z => ?_)
    · exact fin M i H locs ls hP hS hl
    · have hi : i + 7 ≤ L := sub7 hL h1 z
      have nx : ∀ M2, IV M2 → WL (p, l, e, R, s, m, args, below, meth, c) X Qg cl sl M2 1319 (lvL X b i) [] := by
        intro M2 hI2 H locs ls hP hS hl
        refine lv_iinc (v := nI (i + 7)) (lv' := lvL X b (i + 7)) hx hb dL_law_1319 hl (k := 0) rfl (nI_add i 7) (by decide) rfl (fun ls hl => ?_)
        refine lv_goto (tgt := 18) hx hb dL_law_1322 (by decide) ?_
        exact ih (i + 7) M2 hi (by omega) hI2 H locs ls hP hS hl
      refine lv_aload_n hx hb dL_law_27 rfl (lv_at hl 1 rfl) ?_
      refine lv_iload_n hx hb dL_law_28 rfl (lv_at hl 0 rfl) ?_
      refine va_sld hx hb hX hbl (Nat.not_le.mpr hbl) hS (vp_in_nI (by omega) (by omega)) dL_law_29 ?_
      refine lv_bipush (v := 63) hx hb dL_law_30 (by decide) ?_
      refine lv_iand hx hb dL_law_32 ?_
      obtain ⟨j, hj, ej⟩ := and63 (xs (Int32.toNatClampNeg (nI i)))
      rw [ej]
      by_cases h34 : j < 34
      · have key : ∀ k, k < 34 → k = j → WL (p, l, e, R, s, m, args, below, meth, c) X Qg cl sl M 33 (lvL X b i) [.int (nI k)] := by
          intro k hk _
          intro H locs ls hP hS hl
          rcases (show k = 0 ∨ k = 1 ∨ k = 2 ∨ k = 3 ∨ k = 4 ∨ k = 5 ∨ k = 6 ∨ k = 7 ∨ k = 8 ∨ k = 9 ∨ k = 10 ∨ k = 11 ∨ k = 12 ∨ k = 13 ∨ k = 14 ∨ k = 15 ∨ k = 16 ∨ k = 17 ∨ k = 18 ∨ k = 19 ∨ k = 20 ∨ k = 21 ∨ k = 22 ∨ k = 23 ∨ k = 24 ∨ k = 25 ∨ k = 26 ∨ k = 27 ∨ k = 28 ∨ k = 29 ∨ k = 30 ∨ k = 31 ∨ k = 32 ∨ k = 33 by omega) with e | e | e | e | e | e | e | e | e | e | e | e | e | e | e | e | e | e | e | e | e | e | e | e | e | e | e | e | e | e | e | e | e | e
          · subst e; exact lv_tableIn (off := 151) (tgt := 184) hx hb dL_law_33 (by decide) (by decide) rfl (by decide) (la_0 C hL hi hI nx H locs ls hP hS hl)
          · subst e; exact lv_tableIn (off := 194) (tgt := 227) hx hb dL_law_33 (by decide) (by decide) rfl (by decide) (la_1 C hL hi hI nx H locs ls hP hS hl)
          · subst e; exact lv_tableIn (off := 237) (tgt := 270) hx hb dL_law_33 (by decide) (by decide) rfl (by decide) (la_2 C hL hi hI nx H locs ls hP hS hl)
          · subst e; exact lv_tableIn (off := 300) (tgt := 333) hx hb dL_law_33 (by decide) (by decide) rfl (by decide) (la_3 C hL hi hI nx H locs ls hP hS hl)
          · subst e; exact lv_tableIn (off := 323) (tgt := 356) hx hb dL_law_33 (by decide) (by decide) rfl (by decide) (la_4 C hL hi hI nx H locs ls hP hS hl)
          · subst e; exact lv_tableIn (off := 346) (tgt := 379) hx hb dL_law_33 (by decide) (by decide) rfl (by decide) (la_5 C hL hi hI nx H locs ls hP hS hl)
          · subst e; exact lv_tableIn (off := 359) (tgt := 392) hx hb dL_law_33 (by decide) (by decide) rfl (by decide) (la_6 C hL hi hI nx H locs ls hP hS hl)
          · subst e; exact lv_tableIn (off := 372) (tgt := 405) hx hb dL_law_33 (by decide) (by decide) rfl (by decide) (la_7 C hL hi hI nx H locs ls hP hS hl)
          · subst e; exact lv_tableIn (off := 385) (tgt := 418) hx hb dL_law_33 (by decide) (by decide) rfl (by decide) (la_8 C hL hi hI nx H locs ls hP hS hl)
          · subst e; exact lv_tableIn (off := 418) (tgt := 451) hx hb dL_law_33 (by decide) (by decide) rfl (by decide) (la_9 C hL hi hI nx H locs ls hP hS hl)
          · subst e; exact lv_tableIn (off := 441) (tgt := 474) hx hb dL_law_33 (by decide) (by decide) rfl (by decide) (la_10 C hL hi hI nx H locs ls hP hS hl)
          · subst e; exact lv_tableIn (off := 474) (tgt := 507) hx hb dL_law_33 (by decide) (by decide) rfl (by decide) (la_11 C hL hi hI nx H locs ls hP hS hl)
          · subst e; exact lv_tableIn (off := 507) (tgt := 540) hx hb dL_law_33 (by decide) (by decide) rfl (by decide) (la_12 C hL hi hI nx H locs ls hP hS hl)
          · subst e; exact lv_tableIn (off := 540) (tgt := 573) hx hb dL_law_33 (by decide) (by decide) rfl (by decide) (la_13 C hL hi hI nx H locs ls hP hS hl)
          · subst e; exact lv_tableIn (off := 573) (tgt := 606) hx hb dL_law_33 (by decide) (by decide) rfl (by decide) (la_14 C hL hi hI nx H locs ls hP hS hl)
          · subst e; exact lv_tableIn (off := 616) (tgt := 649) hx hb dL_law_33 (by decide) (by decide) rfl (by decide) (la_15 C hL hi hI nx H locs ls hP hS hl)
          · subst e; exact lv_tableIn (off := 649) (tgt := 682) hx hb dL_law_33 (by decide) (by decide) rfl (by decide) (la_16 C hL hi hI nx H locs ls hP hS hl)
          · subst e; exact lv_tableIn (off := 692) (tgt := 725) hx hb dL_law_33 (by decide) (by decide) rfl (by decide) (la_17 C hL hi hI nx H locs ls hP hS hl)
          · subst e; exact lv_tableIn (off := 715) (tgt := 748) hx hb dL_law_33 (by decide) (by decide) rfl (by decide) (la_18 C hL hi hI nx H locs ls hP hS hl)
          · subst e; exact lv_tableIn (off := 728) (tgt := 761) hx hb dL_law_33 (by decide) (by decide) rfl (by decide) (la_19 C hL hi hI nx H locs ls hP hS hl)
          · subst e; exact lv_tableIn (off := 771) (tgt := 804) hx hb dL_law_33 (by decide) (by decide) rfl (by decide) (la_20 C hL hi hI nx H locs ls hP hS hl)
          · subst e; exact lv_tableIn (off := 814) (tgt := 847) hx hb dL_law_33 (by decide) (by decide) rfl (by decide) (la_21 C hL hi hI nx H locs ls hP hS hl)
          · subst e; exact lv_tableIn (off := 857) (tgt := 890) hx hb dL_law_33 (by decide) (by decide) rfl (by decide) (la_22 C hL hi hI nx H locs ls hP hS hl)
          · subst e; exact lv_tableIn (off := 932) (tgt := 965) hx hb dL_law_33 (by decide) (by decide) rfl (by decide) (la_23 C hL hi hI nx H locs ls hP hS hl)
          · subst e; exact lv_tableIn (off := 995) (tgt := 1028) hx hb dL_law_33 (by decide) (by decide) rfl (by decide) (la_24 C hL hi hI nx H locs ls hP hS hl)
          · subst e; exact lv_tableIn (off := 1049) (tgt := 1082) hx hb dL_law_33 (by decide) (by decide) rfl (by decide) (la_25 C hL hi hI nx H locs ls hP hS hl)
          · subst e; exact lv_tableIn (off := 1092) (tgt := 1125) hx hb dL_law_33 (by decide) (by decide) rfl (by decide) (la_26 C hL hi hI nx H locs ls hP hS hl)
          · subst e; exact lv_tableIn (off := 1115) (tgt := 1148) hx hb dL_law_33 (by decide) (by decide) rfl (by decide) (la_27 C hL hi hI nx H locs ls hP hS hl)
          · subst e; exact lv_tableIn (off := 1138) (tgt := 1171) hx hb dL_law_33 (by decide) (by decide) rfl (by decide) (la_28 C hL hi hI nx H locs ls hP hS hl)
          · subst e; exact lv_tableIn (off := 1161) (tgt := 1194) hx hb dL_law_33 (by decide) (by decide) rfl (by decide) (la_29 C hL hi hI nx H locs ls hP hS hl)
          · subst e; exact lv_tableIn (off := 1194) (tgt := 1227) hx hb dL_law_33 (by decide) (by decide) rfl (by decide) (la_30 C hL hi hI nx H locs ls hP hS hl)
          · subst e; exact lv_tableIn (off := 1227) (tgt := 1260) hx hb dL_law_33 (by decide) (by decide) rfl (by decide) (la_31 C hL hi hI nx H locs ls hP hS hl)
          · subst e; exact lv_tableIn (off := 1250) (tgt := 1283) hx hb dL_law_33 (by decide) (by decide) rfl (by decide) (la_32 C hL hi hI nx H locs ls hP hS hl)
          · subst e; exact lv_tableIn (off := 1273) (tgt := 1306) hx hb dL_law_33 (by decide) (by decide) rfl (by decide) (la_33 C hL hi hI nx H locs ls hP hS hl)
        exact key j h34 rfl H locs ls hP hS hl
      · refine lv_tableOut (tgt := 1319) hx hb dL_law_33 (Or.inr ?_) (by decide) (nx M hI H locs ls hP hS hl)
        rw [nI_toInt (by omega)]
        omega
