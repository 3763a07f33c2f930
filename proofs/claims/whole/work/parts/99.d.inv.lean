/-! what holds between two calls of the law -/
def IV (M : Mem) : Prop := (∃ n nx, Hist M n nx) ∧ IRow M ∧ IStat M ∧ ITape M ∧ IFlt M ∧ ITrace M ∧ IImg M ∧ M 85 15 = 0
theorem IRow_f2 {M M2 : Mem} (h : IRow M) (hf : ∀ k j, (3 ≤ k ∧ k ≤ 18) ∨ k = 88 ∨ k = 89 ∨ k = 90 → M2 k j = M k j) : IRow M2 := by
  intro r hr
  rcases h r hr with ⟨a, b⟩ | ⟨l, z, hl, hz, a1, a2, a3, a4, a5⟩
  · refine Or.inl ⟨?_, ?_⟩
    · rw [hf _ _ (by omega)]; exact a
    · rw [hf _ _ (by omega)]; exact b
  · refine Or.inr ⟨l, z, hl, hz, ?_, ?_, ?_, ?_, fun i hi => ?_⟩
    · rw [hf _ _ (by omega)]; exact a1
    · rw [hf _ _ (by omega)]; exact a2
    · rw [hf _ _ (by omega)]; exact a3
    · rw [hf _ _ (by omega)]; exact a4
    · rw [hf (3 + 2 * r + 1) i (by omega), hf 90 _ (by omega)]; exact a5 i hi
theorem ITape_fr {M M2 : Mem} (h : ITape M) (hf : ∀ k j, STape k j → M2 k j = M k j) : ITape M2 := by
  obtain ⟨L, hL, a, b, c⟩ := h
  refine ⟨L, hL, ?_, ?_, fun i hi => ?_⟩
  · rw [hf _ _ (Or.inl ⟨rfl, rfl⟩)]; exact a
  · rw [hf _ _ (Or.inr (Or.inr (Or.inl ⟨rfl, rfl⟩)))]; exact b
  · rw [hf _ _ (Or.inr (Or.inl rfl)), hf _ _ (Or.inr (Or.inr (Or.inr rfl)))]; exact c i hi
theorem ITrace_fr {M M2 : Mem} (h : ITrace M) (hf : ∀ k j, STr k j → M2 k j = M k j) : ITrace M2 := by
  obtain ⟨L, hL, a, b, c⟩ := h
  refine ⟨L, hL, ?_, ?_, fun i hi => ?_⟩
  · rw [hf _ _ (Or.inl ⟨rfl, rfl⟩)]; exact a
  · rw [hf _ _ (Or.inr (Or.inr (Or.inl ⟨rfl, rfl⟩)))]; exact b
  · rw [hf _ _ (Or.inr (Or.inl rfl)), hf _ _ (Or.inr (Or.inr (Or.inr rfl)))]; exact c i hi
section IVS
variable {M M2 : Mem} {r r2 : Int32}
theorem V_scr (h : IV M) (hf : Fr SScr M M2) : IV M2 := by
  obtain ⟨⟨n, nx, h1⟩, h2, h3, h4, h5, h6, h7, h8⟩ := h
  have g : ∀ k j, ¬ SScr k j → M2 k j = M k j := hf
  refine ⟨⟨n, nx, Hist_fr h1 (fun k j z => g k j (fun w => by unfold SH at z; unfold SScr at w; omega))⟩, IRow_f2 h2 (fun k j z => g k j (fun w => by unfold SScr at w; omega)), ?_, ITape_fr h4 (fun k j z => g k j (fun w => by unfold STape at z; unfold SScr at w; omega)), ?_, ITrace_fr h6 (fun k j z => g k j (fun w => by unfold STr at z; unfold SScr at w; omega)), IImg_fr h7 (fun k j z => g k j (fun w => by unfold SImg at z; unfold SScr at w; omega)), ?_⟩
  · unfold IStat at h3 ⊢
    rw [g 0 11 (fun w => by unfold SScr at w; omega), g 85 9 (fun w => by unfold SScr at w; omega)]; exact h3
  · unfold IFlt at h5 ⊢
    rw [g 0 10 (fun w => by unfold SScr at w; omega), g 85 8 (fun w => by unfold SScr at w; omega)]; exact h5
  · rw [g 85 15 (fun w => by unfold SScr at w; omega)]; exact h8
theorem V_row (h : IV M) (hp : PRow M r r2 M2) : r = r2 ∧ IV M2 := by
  obtain ⟨⟨n, nx, h1⟩, h2, h3, h4, h5, h6, h7, h8⟩ := h
  obtain ⟨e, p1, p2, hf⟩ := hp
  have g : ∀ k j, ¬ SRow k j → M2 k j = M k j := hf
  refine ⟨e, ⟨n, nx, Hist_fr h1 (fun k j z => g k j (fun w => by unfold SH at z; unfold SRow at w; omega))⟩, p1, p2, ITape_fr h4 (fun k j z => g k j (fun w => by unfold STape at z; unfold SRow at w; omega)), ?_, ITrace_fr h6 (fun k j z => g k j (fun w => by unfold STr at z; unfold SRow at w; omega)), IImg_fr h7 (fun k j z => g k j (fun w => by unfold SImg at z; unfold SRow at w; omega)), ?_⟩
  · unfold IFlt at h5 ⊢
    rw [g 0 10 (fun w => by unfold SRow at w; omega), g 85 8 (fun w => by unfold SRow at w; omega)]; exact h5
  · rw [g 85 15 (fun w => by unfold SRow at w; omega)]; exact h8
theorem V_feed (h : IV M) (hp : r = r2 ∧ ITape M2 ∧ Fr STape M M2) : r = r2 ∧ IV M2 := by
  obtain ⟨⟨n, nx, h1⟩, h2, h3, h4, h5, h6, h7, h8⟩ := h
  obtain ⟨e, p1, hf⟩ := hp
  have g : ∀ k j, ¬ STape k j → M2 k j = M k j := hf
  refine ⟨e, ⟨n, nx, Hist_fr h1 (fun k j z => g k j (fun w => by unfold SH at z; unfold STape at w; omega))⟩, IRow_f2 h2 (fun k j z => g k j (fun w => by unfold STape at w; omega)), ?_, p1, ?_, ITrace_fr h6 (fun k j z => g k j (fun w => by unfold STr at z; unfold STape at w; omega)), IImg_fr h7 (fun k j z => g k j (fun w => by unfold SImg at z; unfold STape at w; omega)), ?_⟩
  · unfold IStat at h3 ⊢
    rw [g 0 11 (fun w => by unfold STape at w; omega), g 85 9 (fun w => by unfold STape at w; omega)]; exact h3
  · unfold IFlt at h5 ⊢
    rw [g 0 10 (fun w => by unfold STape at w; omega), g 85 8 (fun w => by unfold STape at w; omega)]; exact h5
  · rw [g 85 15 (fun w => by unfold STape at w; omega)]; exact h8
theorem V_same (h : IV M) (hp : r = r2 ∧ M2 = M) : r = r2 ∧ IV M2 := ⟨hp.1, hp.2.symm ▸ h⟩
theorem V_fr (h : IV M) (hp : r = r2 ∧ Fr SScr M M2) : r = r2 ∧ IV M2 := ⟨hp.1, V_scr h hp.2⟩
theorem V_st (h : IV M) (hp : PSt M r r2 M2) : r = r2 ∧ IV M2 := by
  obtain ⟨⟨n, nx, h1⟩, h2, h3, h4, h5, h6, h7, h8⟩ := h
  obtain ⟨e, p1, hf⟩ := hp
  have g : ∀ k j, ¬ SSS k j → M2 k j = M k j := hf
  refine ⟨e, ⟨n, nx, Hist_fr h1 (fun k j z => g k j (fun w => by unfold SH at z; unfold SSS SScr Sst at w; omega))⟩, IRow_f2 h2 (fun k j z => g k j (fun w => by unfold SSS SScr Sst at w; omega)), p1, ITape_fr h4 (fun k j z => g k j (fun w => by unfold STape at z; unfold SSS SScr Sst at w; omega)), ?_, ITrace_fr h6 (fun k j z => g k j (fun w => by unfold STr at z; unfold SSS SScr Sst at w; omega)), IImg_fr h7 (fun k j z => g k j (fun w => by unfold SImg at z; unfold SSS SScr Sst at w; omega)), ?_⟩
  · unfold IFlt at h5 ⊢
    rw [g 0 10 (fun w => by unfold SSS SScr Sst at w; omega), g 85 8 (fun w => by unfold SSS SScr Sst at w; omega)]; exact h5
  · rw [g 85 15 (fun w => by unfold SSS SScr Sst at w; omega)]; exact h8
theorem V_as (h : IV M) (hp : r = r2 ∧ IStat M2 ∧ Fr Sst M M2) : r = r2 ∧ IV M2 := V_st h ⟨hp.1, hp.2.1, Fr_mono hp.2.2 (fun _ _ e => Or.inr e)⟩
theorem V_act (h : IV M) (hp : PAct M r r2 M2) : r = r2 ∧ IV M2 := by
  obtain ⟨h1, h2, h3, h4, h5, h6, h7, h8⟩ := h
  obtain ⟨e, p1, hf⟩ := hp
  have g : ∀ k j, ¬ SAct k j → M2 k j = M k j := hf
  refine ⟨e, p1, IRow_f2 h2 (fun k j z => g k j (fun w => by unfold SAct at w; omega)), ?_, ITape_fr h4 (fun k j z => g k j (fun w => by unfold STape at z; unfold SAct at w; omega)), ?_, ITrace_fr h6 (fun k j z => g k j (fun w => by unfold STr at z; unfold SAct at w; omega)), IImg_fr h7 (fun k j z => g k j (fun w => by unfold SImg at z; unfold SAct at w; omega)), ?_⟩
  · unfold IStat at h3 ⊢
    rw [g 0 11 (fun w => by unfold SAct at w; omega), g 85 9 (fun w => by unfold SAct at w; omega)]; exact h3
  · unfold IFlt at h5 ⊢
    rw [g 0 10 (fun w => by unfold SAct at w; omega), g 85 8 (fun w => by unfold SAct at w; omega)]; exact h5
  · rw [g 85 15 (fun w => by unfold SAct at w; omega)]; exact h8
theorem V_image (h : IV M) (hp : r = r2 ∧ IImg M2 ∧ Fr SImg M M2) : r = r2 ∧ IV M2 := by
  obtain ⟨⟨n, nx, h1⟩, h2, h3, h4, h5, h6, h7, h8⟩ := h
  obtain ⟨e, p1, hf⟩ := hp
  have g : ∀ k j, ¬ SImg k j → M2 k j = M k j := hf
  refine ⟨e, ⟨n, nx, Hist_fr h1 (fun k j z => g k j (fun w => by unfold SH at z; unfold SImg at w; omega))⟩, IRow_f2 h2 (fun k j z => g k j (fun w => by unfold SImg at w; omega)), ?_, ITape_fr h4 (fun k j z => g k j (fun w => by unfold STape at z; unfold SImg at w; omega)), ?_, ITrace_fr h6 (fun k j z => g k j (fun w => by unfold STr at z; unfold SImg at w; omega)), p1, ?_⟩
  · unfold IStat at h3 ⊢
    rw [g 0 11 (fun w => by unfold SImg at w; omega), g 85 9 (fun w => by unfold SImg at w; omega)]; exact h3
  · unfold IFlt at h5 ⊢
    rw [g 0 10 (fun w => by unfold SImg at w; omega), g 85 8 (fun w => by unfold SImg at w; omega)]; exact h5
  · rw [g 85 15 (fun w => by unfold SImg at w; omega)]; exact h8
theorem V_ask (h : IV M) (hp : r = r2 ∧ ITrace M2 ∧ Fr STr M M2) : r = r2 ∧ IV M2 := by
  obtain ⟨⟨n, nx, h1⟩, h2, h3, h4, h5, h6, h7, h8⟩ := h
  obtain ⟨e, p1, hf⟩ := hp
  have g : ∀ k j, ¬ STr k j → M2 k j = M k j := hf
  refine ⟨e, ⟨n, nx, Hist_fr h1 (fun k j z => g k j (fun w => by unfold SH at z; unfold STr at w; omega))⟩, IRow_f2 h2 (fun k j z => g k j (fun w => by unfold STr at w; omega)), ?_, ITape_fr h4 (fun k j z => g k j (fun w => by unfold STape at z; unfold STr at w; omega)), ?_, p1, IImg_fr h7 (fun k j z => g k j (fun w => by unfold SImg at z; unfold STr at w; omega)), ?_⟩
  · unfold IStat at h3 ⊢
    rw [g 0 11 (fun w => by unfold STr at w; omega), g 85 9 (fun w => by unfold STr at w; omega)]; exact h3
  · unfold IFlt at h5 ⊢
    rw [g 0 10 (fun w => by unfold STr at w; omega), g 85 8 (fun w => by unfold STr at w; omega)]; exact h5
  · rw [g 85 15 (fun w => by unfold STr at w; omega)]; exact h8
theorem V_town (h : IV M) (hp : r = r2 ∧ (∃ n nx, Hist M2 n nx) ∧ ITape M2 ∧ IFlt M2 ∧ Fr STown M M2) : r = r2 ∧ IV M2 := by
  obtain ⟨h1, h2, h3, h4, h5, h6, h7, h8⟩ := h
  obtain ⟨e, p1, p2, p3, hf⟩ := hp
  have g : ∀ k j, ¬ STown k j → M2 k j = M k j := hf
  refine ⟨e, p1, IRow_f2 h2 (fun k j z => g k j (fun w => by unfold STown at w; omega)), ?_, p2, p3, ITrace_fr h6 (fun k j z => g k j (fun w => by unfold STr at z; unfold STown at w; omega)), IImg_fr h7 (fun k j z => g k j (fun w => by unfold SImg at z; unfold STown at w; omega)), ?_⟩
  · unfold IStat at h3 ⊢
    rw [g 0 11 (fun w => by unfold STown at w; omega), g 85 9 (fun w => by unfold STown at w; omega)]; exact h3
  · rw [g 85 15 (fun w => by unfold STown at w; omega)]; exact h8
end IVS
/-- a call of the law: what the class answers, the reference answers, and all that holds goes on -/
def Op2 (w8 w9 : Mem → (Int32 → Mem → Prop) → Prop) : Prop := ∀ M, IV M → ∃ P : Int32 → Int32 → Mem → Prop, w8 M (fun r M1 => w9 M1 (fun r2 M2 => P r r2 M2)) ∧ ∀ r r2 M2, P r r2 M2 → r = r2 ∧ IV M2
section OPS
variable (a b c d e f : Int32)
theorem o_row : Op2 (fun M => w_X8_row M a b c) (fun M => w_X9_row M a b c) := fun M h => ⟨_, S_row M a b c h.2.1 h.2.2.1, fun _ _ _ p => V_row h p⟩
theorem o_set : Op2 (fun M => w_X8_set M a b c) (fun M => w_X9_set M a b c) := fun M h => ⟨_, S_set M a b c h.2.1 h.2.2.1, fun _ _ _ p => V_row h p⟩
theorem o_copy : Op2 (fun M => w_X8_copy M a b c d e) (fun M => w_X9_copy M a b c d e) := fun M h => ⟨_, S_copy M a b c d e h.2.1 h.2.2.1, fun _ _ _ p => V_row h p⟩
theorem o_drop : Op2 (fun M => w_X8_drop M a) (fun M => w_X9_drop M a) := fun M h => ⟨_, S_drop M a h.2.1 h.2.2.1, fun _ _ _ p => V_row h p⟩
theorem o_feed : Op2 (fun M => w_X8_feed M a) (fun M => w_X9_feed M a) := fun M h => ⟨_, S_feed M a h.2.2.2.1, fun _ _ _ p => V_feed h p⟩
theorem o_town : Op2 (fun M => w_X8_town M) (fun M => w_X9_town M) := fun M h => by
  obtain ⟨n, nx, hh⟩ := h.1
  exact ⟨_, S_town M n nx hh h.2.2.2.1 h.2.2.2.2.1, fun _ _ _ p => V_town h p⟩
theorem o_fault : Op2 (fun M => w_X8_fault M) (fun M => w_X9_fault M) := fun M h => ⟨_, S_fault M h.2.2.2.2.1, fun _ _ _ p => V_same h p⟩
theorem o_undo : Op2 (fun M => w_X8_undo M) (fun M => w_X9_undo M) := fun M h => by
  obtain ⟨n, nx, hh⟩ := h.1
  exact ⟨_, S_undo M n nx hh, fun _ _ _ p => V_act h p⟩
theorem o_knock : Op2 (fun M => w_X8_knock M a b) (fun M => w_X9_knock M a b) := fun M h => by
  obtain ⟨n, nx, hh⟩ := h.1
  exact ⟨_, S_knock M a b n nx hh h.2.2.2.2.2.2.2, fun _ _ _ p => V_act h p⟩
theorem o_days : Op2 (fun M => w_X8_days M a) (fun M => w_X9_days M a) := fun M h => by
  obtain ⟨n, nx, hh⟩ := h.1
  exact ⟨_, S_days M a n nx hh, fun _ _ _ p => V_act h p⟩
theorem o_gift : Op2 (fun M => w_X8_gift M a b) (fun M => w_X9_gift M a b) := fun M h => by
  obtain ⟨n, nx, hh⟩ := h.1
  exact ⟨_, S_gift M a b n nx hh, fun _ _ _ p => V_act h p⟩
theorem o_build : Op2 (fun M => w_X8_build M a b) (fun M => w_X9_build M a b) := fun M h => by
  obtain ⟨n, nx, hh⟩ := h.1
  exact ⟨_, S_build M a b n nx hh, fun _ _ _ p => V_act h p⟩
theorem o_person : Op2 (fun M => w_X8_person M a b) (fun M => w_X9_person M a b) := fun M h => by
  obtain ⟨n, nx, hh⟩ := h.1
  exact ⟨_, S_person M a b _ (RC_cv M 41) (H_cur hh).2 (H_cur hh).1, fun _ _ _ p => V_same h p⟩
theorem o_door : Op2 (fun M => w_X8_door M a b) (fun M => w_X9_door M a b) := fun M h => by
  obtain ⟨n, nx, hh⟩ := h.1
  exact ⟨_, S_door M a b _ (RC_cv M 41) (H_cur hh).2 (H_cur hh).1, fun _ _ _ p => V_same h p⟩
theorem o_at : Op2 (fun M => w_X8_at M a b c) (fun M => w_X9_at M a b c) := fun M h => by
  obtain ⟨n, nx, hh⟩ := h.1
  exact ⟨_, S_at M a b c _ (RC_cv M 41) (H_cur hh).2 (H_cur hh).1 h.2.2.2.2.2.2.2, fun _ _ _ p => V_fr h p⟩
theorem o_favour : Op2 (fun M => w_X8_favour M a b) (fun M => w_X9_favour M a b) := fun M h => by
  obtain ⟨n, nx, hh⟩ := h.1
  exact ⟨_, S_favour M a b _ (RC_cv M 41) (H_cur hh).2 (H_cur hh).1, fun _ _ _ p => V_same h p⟩
theorem o_way : Op2 (fun M => w_X8_way M a b c) (fun M => w_X9_way M a b c) := fun M h => by
  obtain ⟨n, nx, hh⟩ := h.1
  exact ⟨_, S_way M a b c _ (RC_cv M 41) (H_cur hh).2 (H_cur hh).1 h.2.2.2.2.2.2.2, fun _ _ _ p => V_fr h p⟩
theorem o_reach : Op2 (fun M => w_X8_reach M a) (fun M => w_X9_reach M a) := fun M h => by
  obtain ⟨n, nx, hh⟩ := h.1
  exact ⟨_, S_reach M a _ (RC_cv M 41) (H_cur hh).2 (H_cur hh).1 h.2.2.2.2.2.2.2, fun _ _ _ p => V_fr h p⟩
theorem o_locked : Op2 (fun M => w_X8_locked M) (fun M => w_X9_locked M) := fun M h => by
  obtain ⟨n, nx, hh⟩ := h.1
  exact ⟨_, S_locked M _ (RC_cv M 41) (H_cur hh).2 (H_cur hh).1 h.2.2.2.2.2.2.2, fun _ _ _ p => V_fr h p⟩
theorem o_gifts : Op2 (fun M => w_X8_gifts M a b c) (fun M => w_X9_gifts M a b c) := fun M h => by
  obtain ⟨n, nx, hh⟩ := h.1
  exact ⟨_, S_gifts M a b c _ (RC_cv M 41) (H_cur hh).2 (H_cur hh).1 h.2.2.2.2.2.2.2, fun _ _ _ p => V_fr h p⟩
theorem o_parade : Op2 (fun M => w_X8_parade M a b c) (fun M => w_X9_parade M a b c) := fun M h => by
  obtain ⟨n, nx, hh⟩ := h.1
  exact ⟨_, S_parade M a b c _ (RC_cv M 41) (H_cur hh).2 (H_cur hh).1 h.2.2.2.2.2.2.2, fun _ _ _ p => V_fr h p⟩
theorem o_newDoor : Op2 (fun M => w_X8_newDoor M a b c) (fun M => w_X9_newDoor M a b c) := fun M h => by
  obtain ⟨n, nx, hh⟩ := h.1
  exact ⟨_, S_newDoor M a b c _ (RC_cv M 41) (H_cur hh).2 (H_cur hh).1 h.2.2.2.2.2.2.2, fun _ _ _ p => V_fr h p⟩
theorem o_bents : Op2 (fun M => w_X8_bents M a b c d e f) (fun M => w_X9_bents M a b c d e f) := fun M h => by
  obtain ⟨n, nx, hh⟩ := h.1
  exact ⟨_, S_bents M a b c d e f _ (RC_cv M 41) (H_cur hh).2 (H_cur hh).1 h.2.2.2.2.2.2.2 h.2.1 h.2.2.1, fun _ _ _ p => V_st h p⟩
theorem o_who : Op2 (fun M => w_X8_who M a b c d e) (fun M => w_X9_who M a b c d e) := fun M h => by
  obtain ⟨n, nx, hh⟩ := h.1
  exact ⟨_, S_who M a b c d e _ (RC_cv M 41) (H_cur hh).2 (H_cur hh).1 h.2.2.2.2.2.2.2 h.2.1 h.2.2.1, fun _ _ _ p => V_st h p⟩
theorem o_drawn : Op2 (fun M => w_X8_drawn M a b c) (fun M => w_X9_drawn M a b c) := fun M h => by
  obtain ⟨n, nx, hh⟩ := h.1
  exact ⟨_, S_drawn M a b c _ (RC_cv M 41) (H_cur hh).2 (H_cur hh).1 h.2.2.2.2.2.2.2 (H_day hh), fun _ _ _ p => V_fr h p⟩
theorem o_image : Op2 (fun M => w_X8_image M a) (fun M => w_X9_image M a) := fun M h => by
  obtain ⟨n, nx, hh⟩ := h.1
  exact ⟨_, S_image M a n nx hh h.2.2.2.2.2.2.1, fun _ _ _ p => V_image h p⟩
theorem o_restore : Op2 (fun M => w_X8_restore M a) (fun M => w_X9_restore M a) := fun M h => by
  obtain ⟨n, nx, hh⟩ := h.1
  exact ⟨_, S_restore M a n nx hh h.2.2.2.2.2.2.1, fun _ _ _ p => V_act h p⟩
theorem o_kind : Op2 (fun M => w_X8_kind M a) (fun M => w_X9_kind M a) := fun M h => by
  obtain ⟨n, nx, hh⟩ := h.1
  exact ⟨_, S_kind M a _ (RC_cv M 41) (H_cur hh).2 (H_cur hh).1, fun _ _ _ p => V_same h p⟩
theorem o_as : Op2 (fun M => w_X8_as M a b) (fun M => w_X9_as M a b) := fun M h => by
  obtain ⟨n, nx, hh⟩ := h.1
  exact ⟨_, S_as M a b _ (RC_cv M 41) (H_cur hh).2 (H_cur hh).1 h.2.2.1, fun _ _ _ p => V_as h p⟩
theorem o_ask : Op2 (fun M => w_X8_ask M a b) (fun M => w_X9_ask M a b) := fun M h => by
  obtain ⟨n, nx, hh⟩ := h.1
  exact ⟨_, S_ask M a b _ (RC_cv M 41) (H_cur hh).2 (H_cur hh).1 h.2.2.2.2.2.1, fun _ _ _ p => V_ask h p⟩
theorem o_trace : Op2 (fun M => w_X8_trace M a) (fun M => w_X9_trace M a) := fun M h => ⟨_, S_trace M a h.2.2.2.2.2.1, fun _ _ _ p => V_same h p⟩
theorem o_count : Op2 (fun M => w_X8_count M a) (fun M => w_X9_count M a) := fun M h => by
  obtain ⟨n, nx, hh⟩ := h.1
  have g := H_n hh
  exact ⟨_, S_count M a _ h.2.1 h.2.2.2.1 (g.2.2.1.trans g.2.2.2.1.symm) (RC_cv M 41) (H_cur hh).2 (H_cur hh).1, fun _ _ _ p => V_same h p⟩
theorem o_status : Op2 (fun M => w_X8_status M) (fun M => w_X9_status M) := fun M h => ⟨_, S_status M h.2.2.1, fun _ _ _ p => V_same h p⟩
end OPS
theorem o_awake (a b c d : Int32) (M : Mem) (h : IV M) : ∃ P : Int64 → Int64 → Mem → Prop, w_X8_awake M a b c d (fun r M1 => w_X9_awake M1 a b c d (fun r2 M2 => P r r2 M2)) ∧ ∀ r r2 M2, P r r2 M2 → r = r2 ∧ IV M2 := by
  obtain ⟨n, nx, hh⟩ := h.1
  exact ⟨_, S_awake M a b c d _ (RC_cv M 41) (H_cur hh).2 (H_cur hh).1 h.2.2.2.2.2.2.2, fun _ _ _ p => ⟨p.1, V_scr h p.2⟩⟩
/-! the start -/
theorem M0_z {k j : Nat} (h1 : k ≠ 89) (h2 : kd k ≠ 4) : M0 k j = 0 := by
  unfold M0
  rw [if_neg h1, if_neg h2]
theorem M0_41 {f i : Nat} (hf : f ≤ 10) : M0 (41 + f) i = 0 := by
  refine M0_z (by omega) ?_
  rcases (by omega : f = 0 ∨ f = 1 ∨ f = 2 ∨ f = 3 ∨ f = 4 ∨ f = 5 ∨ f = 6 ∨ f = 7 ∨ f = 8 ∨ f = 9 ∨ f = 10) with e | e | e | e | e | e | e | e | e | e | e <;> subst e <;> decide
theorem cv_0 (f i : Nat) : cv M0 41 f i = 0 := by
  unfold cv
  by_cases h : f ≤ 10
  · rw [if_pos h, M0_41 h]
  · rw [if_neg h]
theorem na_0 (f i : Nat) : na (cv M0 41) f i = 0 := by
  unfold na
  rw [cv_0]
  rfl
theorem IV_0 : IV M0 := by
  have z : ∀ k j, k ≠ 89 → kd k ≠ 4 → M0 k j = 0 := fun k j => M0_z
  have np0 : np (cv M0 41) = 0 := na_0 0 3
  have nd0 : nd (cv M0 41) = 0 := na_0 0 2
  have nr0 : nr (cv M0 41) = 0 := na_0 0 0
  have hV : V (cv M0 41) := by
    unfold V
    rw [np0, nd0, nr0, na_0 0 1, na_0 0 4, na_0 0 5]
    simp only [cv_0]
    exact ⟨⟨rfl, by decide, rfl, by decide, rfl, by decide, rfl, by decide, rfl, by decide, rfl, by decide, by first | trivial | exact Iff.rfl, by first | trivial | exact fun h => h⟩, fun d hd => absurd hd (by omega), fun p hp => absurd hp (by omega), fun p d hp _ => absurd hp (by omega)⟩
  have hM : RM M0 0 (cv M0 41) := by
    refine ⟨fun j hj => ?_, fun f i hr => ?_, fun p d hp hd hn => ⟨z _ _ (by decide) (by decide), fun h => ?_⟩⟩
    · rw [cv_0]; exact z _ _ (by decide) (by decide)
    · rw [cv_0]; exact z _ _ (by decide) (by decide)
    · rw [np0] at h; omega
  refine ⟨⟨0, 0, by decide, ⟨by decide, by rw [na_0]; decide⟩, z _ _ (by decide) (by decide), z _ _ (by decide) (by decide), z _ _ (by decide) (by decide), fun i hi => ?_, fun i hi => absurd hi (by omega)⟩, fun r hr => Or.inl ⟨?_, ?_⟩, ?_, ⟨0, by decide, z _ _ (by decide) (by decide), z _ _ (by decide) (by decide), fun i hi => absurd hi (by omega)⟩, ?_, ⟨0, by decide, z _ _ (by decide) (by decide), z _ _ (by decide) (by decide), fun i hi => absurd hi (by omega)⟩, fun k hk => Or.inl ⟨z _ _ (by decide) (by decide), ?_⟩, z _ _ (by decide) (by decide)⟩
  · have hi : i = 0 := by omega
    subst hi
    exact ⟨hV, hM⟩
  · rcases (by omega : r = 0 ∨ r = 1 ∨ r = 2 ∨ r = 3 ∨ r = 4 ∨ r = 5 ∨ r = 6 ∨ r = 7) with e | e | e | e | e | e | e | e <;> subst e <;> rfl
  · rfl
  · exact (z 0 11 (by decide) (by decide)).trans (z 85 9 (by decide) (by decide)).symm
  · exact (z 0 10 (by decide) (by decide)).trans (z 85 8 (by decide) (by decide)).symm
  · rcases (by omega : k = 0 ∨ k = 1) with e | e <;> subst e <;> exact z _ _ (by decide) (by decide)
