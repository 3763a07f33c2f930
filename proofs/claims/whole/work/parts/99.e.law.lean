/-! the law's own loop -/
def WL (K : Kt) (X : Cx) (Qg : State → Prop) (cl sl : Nat) (M : Mem) (pc : Nat) (lv : List (Nat × Value)) (st : List Value) : Prop := match K with
  | (p, l, e, R, s, m, args, below, meth, c) => ∀ (H : Heap) (locs : List Loc) (ls : Array Slot), PX X M H → va_S (fun q => s.heap.size ≤ q) s.heap H locs → lv_has ls 4 lv → W p l e R s m args below meth c H locs cl sl Qg (F0 m pc ls st)
def KL (K : Kt) (X : Cx) (cl sl b L : Nat) (xs : Nat → Int32) : Prop := match K with
  | (p, _, _, R, s, m, args, _, _, c) => p.tables.exec = Jvm.exec ∧ c.code = cL_law ∧ c.maxLocals = 4 ∧ s.vm.findClass RL = some m.cls ∧ (∀ w ∈ AW, w.before args s = true) ∧ Fx X s ∧ R = room_1 ∧ va_X b L xs s s.heap ∧ b < s.heap.size ∧ (∀ q, AX X q → s.heap.size ≤ q) ∧ cl ≤ room_1.cells ∧ sl ≤ room_1.slots
def lvL (X : Cx) (b i : Nat) : List (Nat × Value) := [(3, .int (nI i)), (0, .ref b), (1, .ref (ad X 0)), (2, .ref (ad X 85))]
section LR
variable {K : Kt} {X : Cx} {Qg : State → Prop} {cl sl b L : Nat} {xs : Nat → Int32} {M : Mem} {pc : Nat} {lv lv2 : List (Nat × Value)} {st : List Value}
theorem l_aload (C : KL K X cl sl b L xs) {k : Fin 4} {x : Nat} (j : Nat) (hd : decode cL_law pc = .ok (.aload_n k, 1)) (hj : lv[j]? = some ((k : Nat), .ref x)) (kk : WL K X Qg cl sl M (pc + 1) lv (.ref x :: st)) : WL K X Qg cl sl M pc lv st := by
  obtain ⟨p, l, e, R, s, m, args, below, meth, c⟩ := K
  obtain ⟨hx, hb, hml, hown, hts, hF, rfl, hX, hbl, hA, hc1, hc2⟩ := C
  intro H locs ls hP hS hl
  exact lv_aload_n hx hb hd rfl (lv_at hl j hj) (kk H locs ls hP hS hl)
theorem l_arg (C : KL K X cl sl b L xs) {i k : Nat} (hL : L ≤ 3584) (hi : i + 7 ≤ L) (hk : k < 7) {n : Int} (hn : Int32.ofInt n = nI k) (d1 : decode cL_law pc = .ok (.aload_n 0, 1)) (d2 : decode cL_law (pc + 1) = .ok (.iload_n 3, 1)) (d3 : decode cL_law (pc + 1 + 1) = .ok (.iconst n, 1)) (d4 : decode cL_law (pc + 1 + 1 + 1) = .ok (.iadd, 1)) (d5 : decode cL_law (pc + 1 + 1 + 1 + 1) = .ok (.iaload, 1)) (kk : WL K X Qg cl sl M (pc + 5) (lvL X b i) (.int (xs (i + k)) :: st)) : WL K X Qg cl sl M pc (lvL X b i) st := by
  obtain ⟨p, l, e, R, s, m, args, below, meth, c⟩ := K
  obtain ⟨hx, hb, hml, hown, hts, hF, rfl, hX, hbl, hA, hc1, hc2⟩ := C
  intro H locs ls hP hS hl
  refine lv_aload_n hx hb d1 rfl (lv_at hl 1 rfl) ?_
  refine lv_iload_n hx hb d2 rfl (lv_at hl 0 rfl) ?_
  refine lv_iconst hx hb d3 hn ?_
  refine lv_iadd hx hb d4 ?_
  rw [nI_add]
  refine va_sld hx hb hX hbl (Nat.not_le.mpr hbl) hS (vp_in_nI (by omega) (by omega)) d5 ?_
  rw [ix_nat (by omega)]
  exact kk H locs ls hP hS hl
theorem l_arg6 (C : KL K X cl sl b L xs) {i k : Nat} (hL : L ≤ 3584) (hi : i + 7 ≤ L) (hk : k < 7) {n : Int} (hn : (Int8.ofInt n).toInt32 = nI k) (d1 : decode cL_law pc = .ok (.aload_n 0, 1)) (d2 : decode cL_law (pc + 1) = .ok (.iload_n 3, 1)) (d3 : decode cL_law (pc + 1 + 1) = .ok (.bipush n, 2)) (d4 : decode cL_law (pc + 1 + 1 + 2) = .ok (.iadd, 1)) (d5 : decode cL_law (pc + 1 + 1 + 2 + 1) = .ok (.iaload, 1)) (kk : WL K X Qg cl sl M (pc + 6) (lvL X b i) (.int (xs (i + k)) :: st)) : WL K X Qg cl sl M pc (lvL X b i) st := by
  obtain ⟨p, l, e, R, s, m, args, below, meth, c⟩ := K
  obtain ⟨hx, hb, hml, hown, hts, hF, rfl, hX, hbl, hA, hc1, hc2⟩ := C
  intro H locs ls hP hS hl
  refine lv_aload_n hx hb d1 rfl (lv_at hl 1 rfl) ?_
  refine lv_iload_n hx hb d2 rfl (lv_at hl 0 rfl) ?_
  refine lv_bipush hx hb d3 hn ?_
  refine lv_iadd hx hb d4 ?_
  rw [nI_add]
  refine va_sld hx hb hX hbl (Nat.not_le.mpr hbl) hS (vp_in_nI (by omega) (by omega)) d5 ?_
  rw [ix_nat (by omega)]
  exact kk H locs ls hP hS hl
theorem Fx_law {X : Cx} {s U : State} {H : Heap} {locs : List Loc} (h : Fx X s) (hS : va_S (fun q => s.heap.size ≤ q) s.heap H locs) (hU : U.heap = H) (hW : s.WarmedH U.vm) : Fx X U := Fx_call (locs := []) h ⟨hS.1, fun q h1 _ => hS.2.1 q h1 (Nat.not_le.mpr h1), fun _ h => by cases h⟩ hU hW
theorem l_callI (C : KL K X cl sl b L xs) {y : MethodName} {bytes : ByteArray} {maxL idx : Nat} {ret : Option FieldType} {rmc : Room} (n : Nat) {As : List Value} {k ci N : Nat} {fs : List Value} {T : u_T} (hk : k < 93) (hc : cellA X (M k) k = .inr (ci, fs)) (hcl : vwCl[ci]? = some (y.cls, T, N)) (hinst : Cond.instanceMethod y ∈ AW) (hsel : Cond.selects y.cls y y ∈ AW) {Q : Int32 → Mem → Prop} (hM : Ct y bytes maxL ret rmc X M (.ref (ad X k) :: As) (Qi X Q)) (hw : Cond.methodLink RL idx y ∈ AW) (hcode : Cond.code y bytes maxL ret ∈ AW) (hini : Cond.initialized y.cls ∈ AW) (hdy : y.cls ≠ "java/lang/invoke/MethodHandle" ∧ y.cls ≠ "java/lang/invoke/VarHandle" ∧ (parseMethodDescriptor y.desc).map (fun d => d.parameters.length) = some n) (h0 : rmc.cells = 0 ∧ rmc.slots = 0) (hR : rmc.frames + 1 ≤ room_1.frames ∧ 8 + (maxL + 11) + rmc.locals ≤ room_1.locals) (hn : As.length = n) (hst : (st.map fun v => v.category).sum ≤ 8) (hd : decode cL_law pc = .ok (.invokevirtual idx, 3)) (kk : ∀ (r : Int32) (M2 : Mem), Q r M2 → WL K X Qg cl sl M2 (pc + 3) lv (.int r :: st)) : WL K X Qg cl sl M pc lv (As.reverse ++ .ref (ad X k) :: st) := by
  obtain ⟨p, l, e, R, s, m, args, below, meth, c⟩ := K
  obtain ⟨hx, hb, hml, hown, hts, hF, rfl, hX, hbl, hA, hc1, hc2⟩ := C
  intro H locs ls hP hS hl
  refine va_calli (va_runV (As := As) (rest := st) ⟨hx, hb, hml, hown, hts⟩ (hM l) (⟨callB_of n hts (AWcall hcode) rfl h0.1 h0.2 (hts _ hini) (hts _ hw) hdy hR, hts _ hinst, hts _ hsel⟩) ⟨fun a U g mk q => ⟨q.1, q.2.1, Fx_blind q.2.2⟩, va_recv hF.2.1 hP hcl (by rw [wsA_at hk, hc]), fun U hU hW => ⟨rfl, by rw [hU]; exact hP, Fx_law hF hS hU hW⟩⟩ rfl hn hl.1 rfl (lv_room hst) hd ⟨hc1, hc2⟩) hS (fun q _ h => hA q h) (fun q h => hA q h) (fun r M2 t H1 locs1 ht hvm hq hB hz hk2 hS => ?_)
  exact kk r M2 hq H1 locs1 ls (by rw [← ht]; exact hB) hS hl
theorem l_callL (C : KL K X cl sl b L xs) {y : MethodName} {bytes : ByteArray} {maxL idx : Nat} {ret : Option FieldType} {rmc : Room} (n : Nat) {As : List Value} {k ci N : Nat} {fs : List Value} {T : u_T} (hk : k < 93) (hc : cellA X (M k) k = .inr (ci, fs)) (hcl : vwCl[ci]? = some (y.cls, T, N)) (hinst : Cond.instanceMethod y ∈ AW) (hsel : Cond.selects y.cls y y ∈ AW) {Q : Int64 → Mem → Prop} (hM : Ct y bytes maxL ret rmc X M (.ref (ad X k) :: As) (Ql X Q)) (hw : Cond.methodLink RL idx y ∈ AW) (hcode : Cond.code y bytes maxL ret ∈ AW) (hini : Cond.initialized y.cls ∈ AW) (hdy : y.cls ≠ "java/lang/invoke/MethodHandle" ∧ y.cls ≠ "java/lang/invoke/VarHandle" ∧ (parseMethodDescriptor y.desc).map (fun d => d.parameters.length) = some n) (h0 : rmc.cells = 0 ∧ rmc.slots = 0) (hR : rmc.frames + 1 ≤ room_1.frames ∧ 8 + (maxL + 11) + rmc.locals ≤ room_1.locals) (hn : As.length = n) (hst : (st.map fun v => v.category).sum ≤ 8) (hd : decode cL_law pc = .ok (.invokevirtual idx, 3)) (kk : ∀ (r : Int64) (M2 : Mem), Q r M2 → WL K X Qg cl sl M2 (pc + 3) lv (.long r :: st)) : WL K X Qg cl sl M pc lv (As.reverse ++ .ref (ad X k) :: st) := by
  obtain ⟨p, l, e, R, s, m, args, below, meth, c⟩ := K
  obtain ⟨hx, hb, hml, hown, hts, hF, rfl, hX, hbl, hA, hc1, hc2⟩ := C
  intro H locs ls hP hS hl
  refine va_calll (va_runV (As := As) (rest := st) ⟨hx, hb, hml, hown, hts⟩ (hM l) (⟨callB_of n hts (AWcall hcode) rfl h0.1 h0.2 (hts _ hini) (hts _ hw) hdy hR, hts _ hinst, hts _ hsel⟩) ⟨fun a U g mk q => ⟨q.1, q.2.1, Fx_blind q.2.2⟩, va_recv hF.2.1 hP hcl (by rw [wsA_at hk, hc]), fun U hU hW => ⟨rfl, by rw [hU]; exact hP, Fx_law hF hS hU hW⟩⟩ rfl hn hl.1 rfl (lv_room hst) hd ⟨hc1, hc2⟩) hS (fun q _ h => hA q h) (fun q h => hA q h) (fun r M2 t H1 locs1 ht hvm hq hB hz hk2 hS => ?_)
  exact kk r M2 hq H1 locs1 ls (by rw [← ht]; exact hB) hS hl
theorem l_eq (C : KL K X cl sl b L xs) {x y : Int32} {off : Int} {tgt : Nat} (h : x = y) (hd : decode cL_law pc = .ok (.if_icmp .eq off, 3)) (ht : (pc : Int) + off = (tgt : Int)) (kk : WL K X Qg cl sl M tgt lv st) : WL K X Qg cl sl M pc lv (.int y :: .int x :: st) := by
  obtain ⟨p, l, e, R, s, m, args, below, meth, c⟩ := K
  obtain ⟨hx, hb, hml, hown, hts, hF, rfl, hX, hbl, hA, hc1, hc2⟩ := C
  intro H locs ls hP hS hl
  exact lv_icmp_eq hx hb hd ht (fun _ => kk H locs ls hP hS hl) (fun z => absurd h z)
theorem l_eqL (C : KL K X cl sl b L xs) {x y : Int64} {off : Int} {tgt : Nat} (h : x = y) (d1 : decode cL_law pc = .ok (.lcmp, 1)) (hd : decode cL_law (pc + 1) = .ok (.ifCond .eq off, 3)) (ht : ((pc + 1 : Nat) : Int) + off = (tgt : Int)) (kk : WL K X Qg cl sl M tgt lv st) : WL K X Qg cl sl M pc lv (.long y :: .long x :: st) := by
  obtain ⟨p, l, e, R, s, m, args, below, meth, c⟩ := K
  obtain ⟨hx, hb, hml, hown, hts, hF, rfl, hX, hbl, hA, hc1, hc2⟩ := C
  intro H locs ls hP hS hl
  subst h
  refine W.lcmp hx hb d1 ?_
  have e0 : lg_cmp x x = 0 := by
    unfold lg_cmp
    rw [if_neg (Int64.lt_irrefl), if_pos rfl]
  exact lv_if_eq hx hb hd ht (fun _ => kk H locs ls hP hS hl) (fun z => absurd e0 z)
end LR
