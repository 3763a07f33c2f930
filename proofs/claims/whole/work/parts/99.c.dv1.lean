def M0 : Mem := fun k => if k = 89 then (fun _ => -1) else if kd k = 4 then (fun j => if j = 1 then -1 else 0) else fun _ => 0
def rmIX8 : Room := { frames := 2, cells := 84, slots := 1264, locals := 32 }
section DV
variable {K : Kt} {X : Cx} {A : Nat → Prop} {Qg : State → Prop} {h0 qr qi i cl sl : Nat} {fs : List Value} {f : Nat → Option Nat} {xc : Nat × va_E} {tl : va_W}
set_option maxRecDepth 20000 in
theorem dv_row (C : KN K X A 2 cX8_init RX8 rmIX8) (hi : i < 8) (hc : cl + 1 + 1 ≤ 84) (hs : sl + 3 + 40 ≤ 1264) (hfs : fs[0]? = some (.ref qr)) (kk : ∀ r : Nat → Nat, WN K X A Qg ((h0, .inr (8, fs)) :: (qr, .inl (cy X 2, 8, .inr (.inr (.inr (.inr (va_up f i (some (r 0)))))))) :: xc :: (tl ++ BkX4 X r)) 2 (cl + 1 + 1) (sl + 3 + 40) 111 [(1, .int (nI (i + 1))), (0, .ref h0)] []) : WN K X A Qg ((h0, .inr (8, fs)) :: (qr, .inl (cy X 2, 8, .inr (.inr (.inr (.inr f))))) :: xc :: tl) 2 cl sl 111 [(1, .int (nI i)), (0, .ref h0)] [] := by
  refine n_iload C 0 dX8_init_111 rfl ?_
  refine n_bipush (v := 8) C dX8_init_112 (by decide) ?_
  refine n_ge0 (tgt := 136) C dX8_init_114 (by decide) (nI_ge (a := i) (b := 8) hi (by decide)) ?_
  refine n_aload C 1 dX8_init_117 rfl ?_
  refine n_get (v := .ref qr) C 0 iaX8 rfl (by decide) aw13 rfl hfs dX8_init_118 ?_
  refine n_iload C 0 dX8_init_121 rfl ?_
  refine n_newI C tyX4 (ci_X4 X) rfl iaX4 tyX4_ok aw12 aw44 aw45 (fun j hj => by rcases (show j = 0 ∨ j = 1 ∨ j = 2 by omega) with rfl | rfl | rfl <;> rfl) nm7 aw95 aw94 rfl ⟨by decide +kernel, by decide +kernel, by decide +kernel⟩ ⟨rfl, rfl⟩ ⟨(Nat.le_of_ble_eq_true rfl), (Nat.le_of_ble_eq_true rfl)⟩ (fun q => (Nat.le_of_ble_eq_true rfl)) hc hs dX8_init_122 dX8_init_125 dX8_init_126 (fun r => ?_)
  refine n_ws (ws2 := (h0, .inr (8, fs)) :: (qr, .inl (cy X 2, 8, .inr (.inr (.inr (.inr f))))) :: xc :: (tl ++ BkX4 X r)) rfl ?_
  have hv : ((h0, .inr (8, fs)) :: (qr, .inl (cy X 2, 8, .inr (.inr (.inr (.inr f))))) :: xc :: (tl ++ BkX4 X r))[tl.length + 1 + 1 + 1]? = some (r 0, .inr (4, [.ref (r 1), .int (-1), .int 0])) := by
    show (tl ++ BkX4 X r)[tl.length]? = _
    rw [List.getElem?_append_right (Nat.le_refl _), Nat.sub_self]
    rfl
  refine n_astq (j := i) (r := (RX4, TX4, 3)) C 1 2 _ 4 rfl rfl hv rfl (vp_in_nI hi (by decide)) (ix_nat (by omega)) dX8_init_129 ?_
  refine n_ws (ws2 := (h0, .inr (8, fs)) :: (qr, .inl (cy X 2, 8, .inr (.inr (.inr (.inr (va_up f i (some (r 0)))))))) :: xc :: (tl ++ BkX4 X r)) rfl ?_
  refine n_iinc (v := nI (i + 1)) (lv2 := [(1, .int (nI (i + 1))), (0, .ref h0)]) C 0 dX8_init_130 rfl (nI_1 i) (by decide) rfl ?_
  exact n_goto (tgt := 111) C dX8_init_133 (by decide) (kk r)
set_option maxRecDepth 20000 in
theorem dv_img (C : KN K X A 2 cX8_init RX8 rmIX8) (hi : i < 2) (hc : cl + 1 + 10 ≤ 84) (hs : sl + 16 + 120 ≤ 1264) (hfs : fs[6]? = some (.ref qi)) (kk : ∀ r : Nat → Nat, WN K X A Qg ((h0, .inr (8, fs)) :: xc :: (qi, .inl (cy X 3, 2, .inr (.inr (.inr (.inr (va_up f i (some (r 0)))))))) :: (tl ++ BkX6 X r)) 2 (cl + 1 + 10) (sl + 16 + 120) 138 [(1, .int (nI (i + 1))), (0, .ref h0)] []) : WN K X A Qg ((h0, .inr (8, fs)) :: xc :: (qi, .inl (cy X 3, 2, .inr (.inr (.inr (.inr f))))) :: tl) 2 cl sl 138 [(1, .int (nI i)), (0, .ref h0)] [] := by
  refine n_iload C 0 dX8_init_138 rfl ?_
  refine n_iconst (v := 2) C dX8_init_139 (by decide) ?_
  refine n_ge0 (tgt := 162) C dX8_init_140 (by decide) (nI_ge (a := i) (b := 2) hi (by decide)) ?_
  refine n_aload C 1 dX8_init_143 rfl ?_
  refine n_get (v := .ref qi) C 6 iaX8 rfl (by decide) aw31 rfl hfs dX8_init_144 ?_
  refine n_iload C 0 dX8_init_147 rfl ?_
  refine n_newI C tyX6 (ci_X6 X) rfl iaX6 tyX6_ok aw26 aw27 aw28 (fun j hj => by rcases (show j = 0 ∨ j = 1 ∨ j = 2 ∨ j = 3 ∨ j = 4 ∨ j = 5 ∨ j = 6 ∨ j = 7 ∨ j = 8 ∨ j = 9 ∨ j = 10 ∨ j = 11 ∨ j = 12 ∨ j = 13 ∨ j = 14 ∨ j = 15 by omega) with rfl | rfl | rfl | rfl | rfl | rfl | rfl | rfl | rfl | rfl | rfl | rfl | rfl | rfl | rfl | rfl <;> rfl) nm3 aw64 aw63 rfl ⟨by decide +kernel, by decide +kernel, by decide +kernel⟩ ⟨rfl, rfl⟩ ⟨(Nat.le_of_ble_eq_true rfl), (Nat.le_of_ble_eq_true rfl)⟩ (fun q => (Nat.le_of_ble_eq_true rfl)) hc hs dX8_init_148 dX8_init_151 dX8_init_152 (fun r => ?_)
  refine n_ws (ws2 := (h0, .inr (8, fs)) :: xc :: (qi, .inl (cy X 3, 2, .inr (.inr (.inr (.inr f))))) :: (tl ++ BkX6 X r)) rfl ?_
  have hv : ((h0, .inr (8, fs)) :: xc :: (qi, .inl (cy X 3, 2, .inr (.inr (.inr (.inr f))))) :: (tl ++ BkX6 X r))[tl.length + 1 + 1 + 1]? = some (r 0, .inr (6, [.int 0, .int 0, .int 0, .int 0, .int 0, .int 0, .ref (r 1), .ref (r 2), .ref (r 3), .ref (r 4), .ref (r 5), .ref (r 6), .ref (r 7), .ref (r 8), .ref (r 9), .ref (r 10)])) := by
    show (tl ++ BkX6 X r)[tl.length]? = _
    rw [List.getElem?_append_right (Nat.le_refl _), Nat.sub_self]
    rfl
  refine n_astq (j := i) (r := (RX6, TX6, 16)) C 2 3 _ 6 rfl rfl hv rfl (vp_in_nI hi (by decide)) (ix_nat (by omega)) dX8_init_155 ?_
  refine n_ws (ws2 := (h0, .inr (8, fs)) :: xc :: (qi, .inl (cy X 3, 2, .inr (.inr (.inr (.inr (va_up f i (some (r 0)))))))) :: (tl ++ BkX6 X r)) rfl ?_
  refine n_iinc (v := nI (i + 1)) (lv2 := [(1, .int (nI (i + 1))), (0, .ref h0)]) C 0 dX8_init_156 rfl (nI_1 i) (by decide) rfl ?_
  exact n_goto (tgt := 138) C dX8_init_159 (by decide) (kk r)
end DV
