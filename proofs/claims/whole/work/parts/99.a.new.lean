/-! worlds that grow: constructors, and the law up to its loop -/
def Nx (X : Cx) (U : State) : Prop := va_K (dg X) vwCl (tysA X) U ∧ (∀ q ∈ NM, va_Nw (.methodLinkNest q.1 q.2.1 q.2.2.1 q.2.2.2) U) ∧ va_AO "DoorVotes$Row" U ∧ va_AO "DoorVotes$Town" U
theorem Nx_blind {X : Cx} {U : State} {g : JFrame} {mk : MethodId} {a : Array Value} (h : Nx X U) : Nx X (U.calling g mk a) :=
  ⟨va_K.moved (u := U) (U := U.calling g mk a) (Vm.Alike.refl U.vm) h.1, fun q hq => va_Nw.same rfl (u := U) (U := U.calling g mk a) rfl (h.2.1 q hq), va_AO.moved (u := U) (U := U.calling g mk a) (Vm.Alike.refl U.vm) h.2.2.1, va_AO.moved (u := U) (U := U.calling g mk a) (Vm.Alike.refl U.vm) h.2.2.2⟩
theorem Nx_call {X : Cx} {s U : State} (h : Nx X s) (hW : s.WarmedH U.vm) : Nx X U := ⟨va_K.moved hW.alike h.1, fun q hq => va_Nw.warmM hW (h.2.1 q hq), va_AO.moved hW.alike h.2.2.1, va_AO.moved hW.alike h.2.2.2⟩
def WN (K : Kt) (X : Cx) (A : Nat → Prop) (Qg : State → Prop) (ws : va_W) (nL cells slots pc : Nat) (lv : List (Nat × Value)) (st : List Value) : Prop := match K with
  | (p, l, e, R, s, m, args, below, meth, c) => ∀ (H : Heap) (locs : List Loc) (ls : Array Slot), va_P (dg X) vwCl ws H → va_D A ws → va_S A s.heap H locs → lv_has ls nL lv → W p l e R s m args below meth c H locs cells slots Qg (F0 m pc ls st)
def KN (K : Kt) (X : Cx) (A : Nat → Prop) (nL : Nat) (cc : ByteArray) (own : String) (rm : Room) : Prop := match K with
  | (p, _, _, R, s, m, args, _, _, c) => p.tables.exec = Jvm.exec ∧ c.code = cc ∧ c.maxLocals = nL ∧ s.vm.findClass own = some m.cls ∧ (∀ w ∈ AW, w.before args s = true) ∧ Nx X s ∧ R = rm ∧ ∀ q, s.heap.size ≤ q → A q
def KI (K : Kt) : Prop := match K with
  | (_, _, _, _, _, _, _, _, meth, _) => meth.name = "<init>" ∧ meth.sig.returnType = none ∧ meth.locks = false
def MK (K : Kt) (Qc : Array Value → State → Outcome → State → Prop) (mc ms : Nat) (A : Nat → Prop) : State → Prop := match K with
  | (_, _, _, _, s, _, args, below, _, _) => MQ below Qc args s mc ms A
section NR
variable {K : Kt} {X : Cx} {A : Nat → Prop} {Qg : State → Prop} {ws ws2 : va_W} {nL cells slots pc : Nat} {cc : ByteArray} {own : String} {rm : Room} {lv lv2 : List (Nat × Value)} {st : List Value}
theorem n_ws (h : ws = ws2) (kk : WN K X A Qg ws2 nL cells slots pc lv st) : WN K X A Qg ws nL cells slots pc lv st := h ▸ kk
theorem n_sub (is : List Nat) (hn : va_nd is = true) (hs : is.map (fun i => ws[i]?) = ws2.map some) (kk : WN K X A Qg ws2 nL cells slots pc lv st) : WN K X A Qg ws nL cells slots pc lv st := by
  obtain ⟨p, l, e, R, s, m, args, below, meth, c⟩ := K
  intro H locs ls hP hD hS hl
  refine kk H locs ls (fun k q hk => ?_) (hD.sub is hn hs) hS hl
  obtain ⟨i, -, hi⟩ := va_in_of is hs hk
  exact hP i q hi
theorem n_cell (j : Nat) {a : Nat} {e e2 : va_E} (hj : ws[j]? = some (a, e)) (h : ∀ H : Heap, va_at (dg X) vwCl (a, e) H → va_at (dg X) vwCl (a, e2) H) (kk : WN K X A Qg (ws.set j (a, e2)) nL cells slots pc lv st) : WN K X A Qg ws nL cells slots pc lv st := by
  obtain ⟨p, l, e, R, s, m, args, below, meth, c⟩ := K
  intro H locs ls hP hD hS hl
  refine kk H locs ls (fun k q hk => ?_) (hD.set hj) hS hl
  rw [List.getElem?_set] at hk
  by_cases hjk : j = k
  · rw [if_pos hjk] at hk
    have hlt : j < ws.length := (List.getElem?_eq_some_iff.mp hj).1
    rw [if_pos (by omega)] at hk
    cases hk
    exact h H (hP j _ hj)
  · rw [if_neg hjk] at hk
    exact hP k q hk
theorem n_aload (C : KN K X A nL cc own rm) {k : Fin 4} {x : Nat} (j : Nat) (hd : decode cc pc = .ok (.aload_n k, 1)) (hj : lv[j]? = some ((k : Nat), .ref x)) (kk : WN K X A Qg ws nL cells slots (pc + 1) lv (.ref x :: st)) : WN K X A Qg ws nL cells slots pc lv st := by
  obtain ⟨p, l, e, R, s, m, args, below, meth, c⟩ := K
  obtain ⟨hx, hb, hml, hown, hts, hN, rfl, hA⟩ := C
  intro H locs ls hP hD hS hl
  exact lv_aload_n hx hb hd rfl (lv_at hl j hj) (kk H locs ls hP hD hS hl)
theorem n_iload (C : KN K X A nL cc own rm) {k : Fin 4} {x : Int32} (j : Nat) (hd : decode cc pc = .ok (.iload_n k, 1)) (hj : lv[j]? = some ((k : Nat), .int x)) (kk : WN K X A Qg ws nL cells slots (pc + 1) lv (.int x :: st)) : WN K X A Qg ws nL cells slots pc lv st := by
  obtain ⟨p, l, e, R, s, m, args, below, meth, c⟩ := K
  obtain ⟨hx, hb, hml, hown, hts, hN, rfl, hA⟩ := C
  intro H locs ls hP hD hS hl
  exact lv_iload_n hx hb hd rfl (lv_at hl j hj) (kk H locs ls hP hD hS hl)
theorem n_istore (C : KN K X A nL cc own rm) {k : Fin 4} {x : Int32} (hd : decode cc pc = .ok (.istore_n k, 1)) (hn : (k : Nat) < nL) (h2 : ((k : Nat), Value.int x) :: lv.filter (fun q => !(q.1 == (k : Nat)) && !(q.1 + 1 == (k : Nat) && q.2.category == 2)) = lv2) (kk : WN K X A Qg ws nL cells slots (pc + 1) lv2 st) : WN K X A Qg ws nL cells slots pc lv (.int x :: st) := by
  obtain ⟨p, l, e, R, s, m, args, below, meth, c⟩ := K
  obtain ⟨hx, hb, hml, hown, hts, hN, rfl, hA⟩ := C
  intro H locs ls hP hD hS hl
  exact lv_istore_n hx hb hd rfl hl hn h2 (fun ls hl => kk H locs ls hP hD hS hl)
theorem n_astore (C : KN K X A nL cc own rm) {k : Fin 4} {x : Nat} (hd : decode cc pc = .ok (.astore_n k, 1)) (hn : (k : Nat) < nL) (h2 : ((k : Nat), Value.ref x) :: lv.filter (fun q => !(q.1 == (k : Nat)) && !(q.1 + 1 == (k : Nat) && q.2.category == 2)) = lv2) (kk : WN K X A Qg ws nL cells slots (pc + 1) lv2 st) : WN K X A Qg ws nL cells slots pc lv (.ref x :: st) := by
  obtain ⟨p, l, e, R, s, m, args, below, meth, c⟩ := K
  obtain ⟨hx, hb, hml, hown, hts, hN, rfl, hA⟩ := C
  intro H locs ls hP hD hS hl
  exact lv_astore_n hx hb hd rfl hl hn h2 (fun ls hl => kk H locs ls hP hD hS hl)
theorem n_iinc (C : KN K X A nL cc own rm) {i : Nat} {n : Int} {x v : Int32} (j : Nat) (hd : decode cc pc = .ok (.iinc i n, 3)) (hj : lv[j]? = some (i, .int x)) (hv : x + Int32.ofInt n = v) (hn : i < nL) (h2 : (i, Value.int v) :: lv.filter (fun q => !(q.1 == i) && !(q.1 + 1 == i && q.2.category == 2)) = lv2) (kk : WN K X A Qg ws nL cells slots (pc + 3) lv2 st) : WN K X A Qg ws nL cells slots pc lv st := by
  obtain ⟨p, l, e, R, s, m, args, below, meth, c⟩ := K
  obtain ⟨hx, hb, hml, hown, hts, hN, rfl, hA⟩ := C
  intro H locs ls hP hD hS hl
  exact lv_iinc hx hb hd hl hj hv hn h2 (fun ls hl => kk H locs ls hP hD hS hl)
theorem n_iconst (C : KN K X A nL cc own rm) {n : Int} {v : Int32} (hd : decode cc pc = .ok (.iconst n, 1)) (hv : Int32.ofInt n = v) (kk : WN K X A Qg ws nL cells slots (pc + 1) lv (.int v :: st)) : WN K X A Qg ws nL cells slots pc lv st := by
  obtain ⟨p, l, e, R, s, m, args, below, meth, c⟩ := K
  obtain ⟨hx, hb, hml, hown, hts, hN, rfl, hA⟩ := C
  intro H locs ls hP hD hS hl
  exact lv_iconst hx hb hd hv (kk H locs ls hP hD hS hl)
theorem n_bipush (C : KN K X A nL cc own rm) {n : Int} {v : Int32} (hd : decode cc pc = .ok (.bipush n, 2)) (hv : (Int8.ofInt n).toInt32 = v) (kk : WN K X A Qg ws nL cells slots (pc + 2) lv (.int v :: st)) : WN K X A Qg ws nL cells slots pc lv st := by
  obtain ⟨p, l, e, R, s, m, args, below, meth, c⟩ := K
  obtain ⟨hx, hb, hml, hown, hts, hN, rfl, hA⟩ := C
  intro H locs ls hP hD hS hl
  exact lv_bipush hx hb hd hv (kk H locs ls hP hD hS hl)
theorem n_sipush (C : KN K X A nL cc own rm) {n : Int} {v : Int32} (hd : decode cc pc = .ok (.sipush n, 3)) (hv : (Int16.ofInt n).toInt32 = v) (kk : WN K X A Qg ws nL cells slots (pc + 3) lv (.int v :: st)) : WN K X A Qg ws nL cells slots pc lv st := by
  obtain ⟨p, l, e, R, s, m, args, below, meth, c⟩ := K
  obtain ⟨hx, hb, hml, hown, hts, hN, rfl, hA⟩ := C
  intro H locs ls hP hD hS hl
  exact lv_sipush hx hb hd hv (kk H locs ls hP hD hS hl)
theorem n_dup (C : KN K X A nL cc own rm) {v : Value} (hd : decode cc pc = .ok (.dup, 1)) (hv : v.category = 1) (kk : WN K X A Qg ws nL cells slots (pc + 1) lv (v :: v :: st)) : WN K X A Qg ws nL cells slots pc lv (v :: st) := by
  obtain ⟨p, l, e, R, s, m, args, below, meth, c⟩ := K
  obtain ⟨hx, hb, hml, hown, hts, hN, rfl, hA⟩ := C
  intro H locs ls hP hD hS hl
  exact lv_dup hx hb hd hv (kk H locs ls hP hD hS hl)
theorem n_goto (C : KN K X A nL cc own rm) {off : Int} {tgt : Nat} (hd : decode cc pc = .ok (.goto off, 3)) (ht : (pc : Int) + off = (tgt : Int)) (kk : WN K X A Qg ws nL cells slots tgt lv st) : WN K X A Qg ws nL cells slots pc lv st := by
  obtain ⟨p, l, e, R, s, m, args, below, meth, c⟩ := K
  obtain ⟨hx, hb, hml, hown, hts, hN, rfl, hA⟩ := C
  intro H locs ls hP hD hS hl
  exact lv_goto hx hb hd ht (kk H locs ls hP hD hS hl)
theorem n_ge0 (C : KN K X A nL cc own rm) {x y : Int32} {off : Int} {tgt : Nat} (hd : decode cc pc = .ok (.if_icmp .ge off, 3)) (ht : (pc : Int) + off = (tgt : Int)) (h : ¬ y ≤ x) (kk : WN K X A Qg ws nL cells slots (pc + 3) lv st) : WN K X A Qg ws nL cells slots pc lv (.int y :: .int x :: st) := by
  obtain ⟨p, l, e, R, s, m, args, below, meth, c⟩ := K
  obtain ⟨hx, hb, hml, hown, hts, hN, rfl, hA⟩ := C
  intro H locs ls hP hD hS hl
  exact lv_icmp_ge hx hb hd ht (fun z => absurd z h) (fun _ => kk H locs ls hP hD hS hl)
theorem n_ge1 (C : KN K X A nL cc own rm) {x y : Int32} {off : Int} {tgt : Nat} (hd : decode cc pc = .ok (.if_icmp .ge off, 3)) (ht : (pc : Int) + off = (tgt : Int)) (h : y ≤ x) (kk : WN K X A Qg ws nL cells slots tgt lv st) : WN K X A Qg ws nL cells slots pc lv (.int y :: .int x :: st) := by
  obtain ⟨p, l, e, R, s, m, args, below, meth, c⟩ := K
  obtain ⟨hx, hb, hml, hown, hts, hN, rfl, hA⟩ := C
  intro H locs ls hP hD hS hl
  exact lv_icmp_ge hx hb hd ht (fun _ => kk H locs ls hP hD hS hl) (fun z => absurd h z)
theorem n_objI (C : KN K X A nL cc own rm) {idx a : Nat} (hw : Cond.methodLink own idx objectInit ∈ AW) (hfr : 1 ≤ rm.frames) (hlo : 12 ≤ rm.locals) (hd : decode cc pc = .ok (.invokespecial idx, 3)) (kk : WN K X A Qg ws nL cells slots (pc + 3) lv []) : WN K X A Qg ws nL cells slots pc lv [.ref a] := by
  obtain ⟨p, l, e, R, s, m, args, below, meth, c⟩ := K
  obtain ⟨hx, hb, hml, hown, hts, hN, rfl, hA⟩ := C
  intro H locs ls hP hD hS hl
  refine W.objInit hx hb hown (hts _ hw) (hts _ aw10) (hts _ aw11) rfl (by rw [hml]; exact hl.1) rfl hd hfr (show 2 * 0 + 0 + 12 ≤ _ from hlo) ?_
  exact W.eq (g2 := F0 m (pc + 3) ls []) rfl (kk H locs ls hP hD hS hl)
theorem n_newi (C : KN K X A nL cc own rm) {n : Int32} {N : Nat} (hn : ¬ n < 0) (hN : n.toNatClampNeg = N) (hby : N * componentBytes .int ≤ 536870912) (hc : cells + 1 ≤ rm.cells) (hs : slots + N ≤ rm.slots) (hd : decode cc pc = .ok (.newarray .int, 2)) (kk : ∀ q : Nat, WN K X A Qg (ws ++ [(q, .inl (cy X 0, N, .inl (fun _ => 0)))]) nL (cells + 1) (slots + N) (pc + 2) lv (.ref q :: st)) : WN K X A Qg ws nL cells slots pc lv (.int n :: st) := by
  obtain ⟨p, l, e, R, s, m, args, below, meth, c⟩ := K
  obtain ⟨hx, hb, hml, hown, hts, hNx, rfl, hA⟩ := C
  intro H locs ls hP hD hS hl
  refine va_newa (atype := .int) (a0 := (N, .inl (fun _ => 0))) (ty := .int) hx hb (hts _ aw49) rfl hNx.1 hP hD hS hA (fun cA => rfl) hn hN hby hc hs hd (fun q cA H1 hK1 hP1 hD1 hS1 => ?_)
  have e1 : s.vm.findClass ("[" ++ (FieldType.int).toString) = some cA := (hK1.2 4 (cA, .int) rfl).2
  have e2 : s.vm.findClass ("[" ++ (FieldType.int).toString) = some (cy X 0) := (hK1.2 0 (cy X 0, .int) rfl).2
  have e3 : cA = cy X 0 := Option.some.inj (e1.symm.trans e2)
  subst e3
  exact kk q H1 locs ls hP1 hD1 hS1 hl
theorem n_newz (C : KN K X A nL cc own rm) {n : Int32} {N : Nat} (hn : ¬ n < 0) (hN : n.toNatClampNeg = N) (hby : N * componentBytes .boolean ≤ 536870912) (hc : cells + 1 ≤ rm.cells) (hs : slots + N ≤ rm.slots) (hd : decode cc pc = .ok (.newarray .boolean, 2)) (kk : ∀ q : Nat, WN K X A Qg (ws ++ [(q, .inl (cy X 1, N, .inl (fun _ => 0)))]) nL (cells + 1) (slots + N) (pc + 2) lv (.ref q :: st)) : WN K X A Qg ws nL cells slots pc lv (.int n :: st) := by
  obtain ⟨p, l, e, R, s, m, args, below, meth, c⟩ := K
  obtain ⟨hx, hb, hml, hown, hts, hNx, rfl, hA⟩ := C
  intro H locs ls hP hD hS hl
  refine va_newa (atype := .boolean) (a0 := (N, .inl (fun _ => 0))) (ty := .boolean) hx hb (hts _ aw104) rfl hNx.1 hP hD hS hA (fun cA => rfl) hn hN hby hc hs hd (fun q cA H1 hK1 hP1 hD1 hS1 => ?_)
  have e1 : s.vm.findClass ("[" ++ (FieldType.boolean).toString) = some cA := (hK1.2 4 (cA, .boolean) rfl).2
  have e2 : s.vm.findClass ("[" ++ (FieldType.boolean).toString) = some (cy X 1) := (hK1.2 1 (cy X 1, .boolean) rfl).2
  have e3 : cA = cy X 1 := Option.some.inj (e1.symm.trans e2)
  subst e3
  exact kk q H1 locs ls hP1 hD1 hS1 hl
theorem n_newq (C : KN K X A nL cc own rm) {n : Int32} {N idx z : Nat} {Cn : String} (hz : (tysA X)[z]? = some (cy X z, .object Cn)) (hck : Cond.classLink own idx Cn ∈ AW) (hov : ∀ U : State, Nx X U → va_AO Cn U) (hn : ¬ n < 0) (hN : n.toNatClampNeg = N) (hby : N * 4 ≤ 536870912) (hc : cells + 1 ≤ rm.cells) (hs : slots + N ≤ rm.slots) (hd : decode cc pc = .ok (.anewarray idx, 3)) (kk : ∀ q : Nat, WN K X A Qg (ws ++ [(q, .inl (cy X z, N, .inr (.inr (.inr (.inr (fun _ => none))))))]) nL (cells + 1) (slots + N) (pc + 3) lv (.ref q :: st)) : WN K X A Qg ws nL cells slots pc lv (.int n :: st) := by
  obtain ⟨p, l, e, R, s, m, args, below, meth, c⟩ := K
  obtain ⟨hx, hb, hml, hown, hts, hNx, rfl, hA⟩ := C
  intro H locs ls hP hD hS hl
  refine va_newq hx hb hown (hts _ hck) (hov s hNx) hNx.1 hP hD hS hA hn hN hby hc hs hd (fun q cA H1 hK1 hP1 hD1 hS1 => ?_)
  have e1 : va_RA s cA (.object Cn) := (hK1.2 4 (cA, .object Cn) rfl).2
  have e2 : va_RA s (cy X z) (.object Cn) := (hNx.1.2 z _ hz).2
  obtain ⟨_, _, _, _, _, g1⟩ := e1
  obtain ⟨_, _, _, _, _, g2⟩ := e2
  have e3 : cA = cy X z := Option.some.inj (g1.symm.trans g2)
  subst e3
  exact kk q H1 locs ls hP1 hD1 hS1 hl
theorem n_putF (C : KN K X A nL cc own rm) (I : KI K) {ci idx N a : Nat} (k : Nat) {fs fs2 : List Value} {T : u_T} {v : Value} {tl : va_W} (ty0 : Nat → FieldType) (hin : ∀ w ∈ u_ws own T N, w ∈ AW) (hty : ∀ k, k < N → parseFieldDescriptor (T k).2.2.1 = some (ty0 k)) (hnm : ∀ a, a < N → ∀ b, b < N → a ≠ b → (T a).2.1 ≠ (T b).2.1) (hc : vwCl[ci]? = some (own, T, N)) (hk : k < N) (hlink : Cond.fieldLink own idx own (T k).2.1 (T k).2.2.1 ∈ AW) (hdecl : (T k).1 = own) (hfin : (T k).2.2.2 = true) (hn : narrow (ty0 k) v = v) (hfit : fits (ty0 k) v = true) (hl : k < fs.length) (h2 : fs.set k v = fs2) (hdg : decode cc pc = .ok (.putfield idx, 3)) (kk : WN K X A Qg ((a, .inr (ci, fs2)) :: tl) nL cells slots (pc + 3) lv st) : WN K X A Qg ((a, .inr (ci, fs)) :: tl) nL cells slots pc lv (v :: .ref a :: st) := by
  obtain ⟨p, l, e, R, s, m, args, below, meth, c⟩ := K
  obtain ⟨hx, hb, hml, hown, hts, hNx, rfl, hA⟩ := C
  intro H locs ls hP hD hS hlv
  subst h2
  exact va_putF (C := own) (ref := own) (ty := ty0 k) hx hb hts hin ty0 hty hnm hown hNx.1 hP hD hS 0 rfl hc k hk (hts _ hlink) (fun x h => by rw [hdecl] at h; exact h) hfin I.1 hdecl (hty k hk) hn hfit hl hdg (fun H1 locs1 hP1 hD1 hS1 => kk H1 locs1 ls hP1 hD1 hS1 hlv)
theorem n_put (C : KN K X A nL cc own rm) {ci idx N a : Nat} (k : Nat) {fs fs2 : List Value} {T : u_T} {v : Value} {tl : va_W} (ty0 : Nat → FieldType) (hin : ∀ w ∈ u_ws own T N, w ∈ AW) (hty : ∀ k, k < N → parseFieldDescriptor (T k).2.2.1 = some (ty0 k)) (hnm : ∀ a, a < N → ∀ b, b < N → a ≠ b → (T a).2.1 ≠ (T b).2.1) (hc : vwCl[ci]? = some (own, T, N)) (hk : k < N) (hlink : Cond.fieldLink own idx own (T k).2.1 (T k).2.2.1 ∈ AW) (hdecl : (T k).1 = own) (hfin : (T k).2.2.2 = false) (hn : narrow (ty0 k) v = v) (hfit : fits (ty0 k) v = true) (hl : k < fs.length) (h2 : fs.set k v = fs2) (hdg : decode cc pc = .ok (.putfield idx, 3)) (kk : WN K X A Qg ((a, .inr (ci, fs2)) :: tl) nL cells slots (pc + 3) lv st) : WN K X A Qg ((a, .inr (ci, fs)) :: tl) nL cells slots pc lv (v :: .ref a :: st) := by
  obtain ⟨p, l, e, R, s, m, args, below, meth, c⟩ := K
  obtain ⟨hx, hb, hml, hown, hts, hNx, rfl, hA⟩ := C
  intro H locs ls hP hD hS hlv
  subst h2
  exact va_put (C := own) (ref := own) (ty := ty0 k) hx hb hts hin ty0 hty hnm hown hNx.1 hP hD hS 0 rfl hc k hk (hts _ hlink) (fun x h => by rw [hdecl] at h; exact h) hfin (hty k hk) hn hfit hl hdg (fun H1 locs1 hP1 hD1 hS1 => kk H1 locs1 ls hP1 hD1 hS1 hlv)
theorem n_get (C : KN K X A nL cc own rm) {ci idx N a : Nat} (k : Nat) {fs : List Value} {T : u_T} {v : Value} {tl : va_W} (hin : ∀ w ∈ u_ws own T N, w ∈ AW) (hc : vwCl[ci]? = some (own, T, N)) (hk : k < N) (hlink : Cond.fieldLink own idx own (T k).2.1 (T k).2.2.1 ∈ AW) (hdecl : (T k).1 = own) (hv : fs[k]? = some v) (hdg : decode cc pc = .ok (.getfield idx, 3)) (kk : WN K X A Qg ((a, .inr (ci, fs)) :: tl) nL cells slots (pc + 3) lv (v :: st)) : WN K X A Qg ((a, .inr (ci, fs)) :: tl) nL cells slots pc lv (.ref a :: st) := by
  obtain ⟨p, l, e, R, s, m, args, below, meth, c⟩ := K
  obtain ⟨hx, hb, hml, hown, hts, hNx, rfl, hA⟩ := C
  intro H locs ls hP hD hS hlv
  exact va_get (C := own) (ref := own) hx hb hts hin hown hNx.1 hP 0 rfl hc k hk (hts _ hlink) (fun x h => by rw [hdecl] at h; exact h) hv hdg (kk H locs ls hP hD hS hlv)
theorem n_iast (C : KN K X A nL cc own rm) (q0 : Nat) {a n j : Nat} {f : Nat → Int32} {i x : Int32} (ha : ws[q0]? = some (a, .inl (cy X 0, n, .inl f))) (hi : vp_in i n) (hj : i.toNatClampNeg = j) (hd : decode cc pc = .ok (.iastore, 1)) (kk : WN K X A Qg (ws.set q0 (a, .inl (cy X 0, n, .inl (upd f j x)))) nL cells slots (pc + 1) lv st) : WN K X A Qg ws nL cells slots pc lv (.int x :: .int i :: .ref a :: st) := by
  obtain ⟨p, l, e, R, s, m, args, below, meth, c⟩ := K
  obtain ⟨hx, hb, hml, hown, hts, hNx, rfl, hA⟩ := C
  intro H locs ls hP hD hS hlv
  subst hj
  exact va_iast hx hb hNx.1 hP hD hS q0 0 ha rfl hi hd (fun H1 locs1 hP1 hD1 hS1 => kk H1 locs1 ls hP1 hD1 hS1 hlv)
theorem n_astq (C : KN K X A nL cc own rm) (q0 z qk ci : Nat) {a n j v : Nat} {f : Nat → Option Nat} {i : Int32} {r : vw_C} {vs : List Value} (ha : ws[q0]? = some (a, .inl (cy X z, n, .inr (.inr (.inr (.inr f)))))) (hz : (tysA X)[z]? = some (cy X z, .object r.1)) (hv : ws[qk]? = some (v, .inr (ci, vs))) (hc : vwCl[ci]? = some r) (hi : vp_in i n) (hj : i.toNatClampNeg = j) (hd : decode cc pc = .ok (.aastore, 1)) (kk : WN K X A Qg (ws.set q0 (a, .inl (cy X z, n, .inr (.inr (.inr (.inr (va_up f j (some v)))))))) nL cells slots (pc + 1) lv st) : WN K X A Qg ws nL cells slots pc lv (.ref v :: .int i :: .ref a :: st) := by
  obtain ⟨p, l, e, R, s, m, args, below, meth, c⟩ := K
  obtain ⟨hx, hb, hml, hown, hts, hNx, rfl, hA⟩ := C
  intro H locs ls hP hD hS hlv
  subst hj
  exact va_astq hx hb hNx.1 hP hD hS q0 z qk ci ha hz hv hc hi hd (fun H1 locs1 hP1 hD1 hS1 => kk H1 locs1 ls hP1 hD1 hS1 hlv)
theorem n_ret {S : Type} {post : S → Prop} {B : S → State → Prop} (C : KN K X A nL cc own rm) (I : KI K) (hd : decode cc pc = .ok (.return_, 1)) (u : S) (hu : post u) (hB : ∀ t : State, va_P (dg X) vwCl ws t.heap → va_D A ws → B u t) : WN K X A (MK K (va_Qv post B A) cells slots A) ws nL cells slots pc lv [] := by
  obtain ⟨p, l, e, R, s, m, args, below, meth, c⟩ := K
  obtain ⟨hx, hb, hml, hown, hts, hNx, rfl, hA⟩ := C
  obtain ⟨hnm, hr, hlk⟩ := I
  intro H locs ls hP hD hS hlv
  exact W.vret hx hb hr (fun t ht hW => ⟨⟨u, rfl, hu, hB t (by rw [ht]; exact hP) hD⟩, hS.F ht⟩) hS.2.2 hd hlk
end NR
theorem va_D1 {a sz : Nat} {e : va_E} : va_D (va_A [(a, e)] sz) [(a, e)] := by
  refine ⟨fun i j p q hi hj _ => ?_, fun k q hk => va_A.in hk⟩
  have h1 : i < 1 := (List.getElem?_eq_some_iff.mp hi).1
  have h2 : j < 1 := (List.getElem?_eq_some_iff.mp hj).1
  omega
/-- a constructor's contract -/
def CtI (y : MethodName) (cc : ByteArray) (maxL : Nat) (rm : Room) (X : Cx) (ci : Nat) (fs : List Value) (Bk : (Nat → Nat) → va_W) (mc ms : Nat) : Prop := ∀ (l : Launch) (h0 sz : Nat), Met l y (.code y cc maxL none :: AW) rm (va_Pc [.ref h0] (fun U => U.heap.size = sz ∧ va_P (dg X) vwCl [(h0, .inr (ci, fs))] U.heap ∧ Nx X U)) (va_Qv (fun q : Nat → Nat => q 0 = h0) (fun q t => va_P (dg X) vwCl (Bk q) t.heap ∧ va_D (va_A [(h0, .inr (ci, fs))] sz) (Bk q)) (va_A [(h0, .inr (ci, fs))] sz)) mc ms (va_A [(h0, .inr (ci, fs))] sz)
abbrev QI (X : Cx) (Bk : (Nat → Nat) → va_W) (A : Nat → Prop) (h0 : Nat) : Array Value → State → Outcome → State → Prop := va_Qv (fun q : Nat → Nat => q 0 = h0) (fun q t => va_P (dg X) vwCl (Bk q) t.heap ∧ va_D A (Bk q)) A
theorem ci_of {y : MethodName} {cc : ByteArray} {maxL : Nat} {rm : Room} {X : Cx} {ci : Nat} {fs : List Value} {Bk : (Nat → Nat) → va_W} {mc ms : Nat} {own : String} (hown : y.cls = own) (hy : plainName y.cls = true) (hav : ∀ h0 : Nat, (lg_sl [Value.ref h0]).length ≤ maxL) (hn : y.name = "<init>") (h : ∀ (K : Kt) (A : Nat → Prop) (h0 : Nat), KN K X A maxL cc own rm → KI K → WN K X A (MK K (QI X Bk A h0) mc ms A) [(h0, .inr (ci, fs))] maxL 0 0 0 [(0, .ref h0)] []) : CtI y cc maxL rm X ci fs Bk mc ms := by
  intro l h0 sz
  refine Met.ofW (cc := cc) (maxL := maxL) (ret := none) hy rfl ?_
  intro p e s m args below meth c s₁ B hml hv
  obtain ⟨rfl, hsz, hP, hF⟩ := hv
  subst hsz
  have hl := lv_entry [Value.ref h0] (n := maxL) (hav h0)
  rw [show lv_args 0 [Value.ref h0] = [(0, Value.ref h0)] from rfl] at hl
  rw [lg_entry_eq]
  have hts := atoms_spec (ws := Cond.code y cc maxL none :: AW) B.pre
  exact h (p, l, e, (headSpec (Cond.code y cc maxL none :: AW) rm).room, s, m, [Value.ref h0].toArray, below, meth, c) (va_A [(h0, .inr (ci, fs))] s.heap.size) h0 ⟨B.exec, B.bytes, hml, by rw [← hown]; exact findClass_of_methodNamed B.named, fun w hw => hts w (List.mem_cons_of_mem _ hw), hF, rfl, fun q hq => Or.inr hq⟩ ⟨(name_of_methodNamed B.named B.method).1.trans hn, B.returns, B.notSynchronized⟩ s.heap [] _ hP va_D1 va_S.rf hl
theorem join_last {A0 : Nat → Prop} {D : va_G} {cl : List vw_C} {ws w1 : va_W} {q : Nat} {e : va_E} {H H1 : Heap} (hP : va_P D cl (ws ++ [(q, e)]) H) (hD : va_D A0 (ws ++ [(q, e)])) (hk : ∀ x : Nat, x < H.size → ¬ va_A [(q, e)] H.size x → H1[x]? = H[x]?) (hF : ∀ x, va_A [(q, e)] H.size x → A0 x) (hP1 : va_P D cl w1 H1) (hD1 : va_D (va_A [(q, e)] H.size) w1) : va_P D cl (ws ++ w1) H1 ∧ va_D A0 (ws ++ w1) := by
  have lift : ∀ (k : Nat) (x : Nat × va_E), ws[k]? = some x → (ws ++ [(q, e)])[k]? = some x := fun k x hx => by
    rw [List.getElem?_append_left (List.getElem?_eq_some_iff.mp hx).1]; exact hx
  have hlast : (ws ++ [(q, e)])[ws.length]? = some (q, e) := by simp
  have apart : ∀ (k : Nat) (x : Nat × va_E), ws[k]? = some x → x.1 < H.size ∧ ¬ va_A [(q, e)] H.size x.1 := by
    intro k x hx
    have hl := (hP k x (lift k x hx)).lt
    refine ⟨hl, fun h => ?_⟩
    rcases h with ⟨k2, e2, h⟩ | h
    · have h2 : k2 < 1 := (List.getElem?_eq_some_iff.mp h).1
      have h2 : k2 = 0 := by omega
      subst h2
      have h3 : q = x.1 := congrArg Prod.fst (Option.some.inj h)
      have h4 := hD.1 k ws.length x (q, e) (lift k x hx) hlast h3.symm
      have := (List.getElem?_eq_some_iff.mp hx).1
      omega
    · omega
  refine ⟨va_P.app (fun k x hx => ?_) hP1, va_D.app ⟨fun i j a b hi hj hab => hD.1 i j a b (lift i a hi) (lift j b hj) hab, fun k x hx => hD.2 k x (lift k x hx)⟩ (hD1.weaken (fun k q _ h => hF q.1 h)) (fun i j x y hx hy hxy => ?_)⟩
  · obtain ⟨g1, g2⟩ := apart k x hx
    exact (hP k x (lift k x hx)).kept (hk x.1 g1 g2)
  · exact (apart i x hx).2 (by rw [hxy]; exact hD1.2 j y hy)
section NI
variable {K : Kt} {X : Cx} {A : Nat → Prop} {Qg : State → Prop} {ws : va_W} {nL cells slots pc : Nat} {cc : ByteArray} {own : String} {rm : Room} {lv : List (Nat × Value)} {st : List Value}
/-- new, dup, and a nest mate's constructor -/
theorem n_newI (C : KN K X A nL cc own rm) {y : MethodName} {bytes : ByteArray} {maxL idx idx2 ci N mc ms : Nat} {rmc : Room} {fs : List Value} {Bk : (Nat → Nat) → va_W} {T : u_T} (ty : Nat → FieldType) {host : String} (hM : CtI y bytes maxL rmc X ci fs Bk mc ms) (hcl : vwCl[ci]? = some (y.cls, T, N)) (hin : ∀ w ∈ u_ws y.cls T N, w ∈ AW) (hty : ∀ k, k < N → parseFieldDescriptor (T k).2.2.1 = some (ty k)) (hck : Cond.classLink own idx y.cls ∈ AW) (hinst : Cond.instantiable y.cls N ∈ AW) (hini : Cond.initialized y.cls ∈ AW) (hfs : ∀ j, j < N → defaultValue (ty j) = vp_V fs j) (hw : (own, idx2, y, host) ∈ NM) (hcode : Cond.code y bytes maxL none ∈ AW) (him : Cond.instanceMethod y ∈ AW) (hnm : y.name = "<init>") (hdy : y.cls ≠ "java/lang/invoke/MethodHandle" ∧ y.cls ≠ "java/lang/invoke/VarHandle" ∧ (parseMethodDescriptor y.desc).map (fun d => d.parameters.length) = some 0) (h0 : rmc.cells = mc ∧ rmc.slots = ms) (hR : rmc.frames + 1 ≤ rm.frames ∧ 8 + (maxL + 11) + rmc.locals ≤ rm.locals) (hst : ∀ q : Nat, ((Value.ref q :: st).map fun v => v.category).sum ≤ 8) (hcells : cells + 1 + mc ≤ rm.cells) (hslots : slots + N + ms ≤ rm.slots) (d1 : decode cc pc = .ok (.new idx, 3)) (d2 : decode cc (pc + 3) = .ok (.dup, 1)) (d3 : decode cc (pc + 3 + 1) = .ok (.invokespecial idx2, 3)) (kk : ∀ q : Nat → Nat, WN K X A Qg (ws ++ Bk q) nL (cells + 1 + mc) (slots + N + ms) (pc + 3 + 1 + 3) lv (.ref (q 0) :: st)) : WN K X A Qg ws nL cells slots pc lv st := by
  obtain ⟨p, l, e, R, s, m, args, below, meth, c⟩ := K
  obtain ⟨hx, hb, hml, hown, hts, hN, rfl, hA⟩ := C
  intro H locs ls hP hD hS hl
  refine va_new (ci := ci) (fs := fs) hx hb hts hin ty hty hown (hts _ hck) (hts _ hinst) (hts _ hini) hN.1 hP hD hS hA hcl hfs (by omega) (by omega) d1 (fun q5 H1 hP1 hD1 hS1 => ?_)
  refine lv_dup hx hb d2 rfl ?_
  have isC : [ws.length].map (fun i => (ws ++ [(q5, Sum.inr (ci, fs))])[i]?) = [(q5, Sum.inr (ci, fs))].map some := by simp
  have hPc : va_P (dg X) vwCl [(q5, .inr (ci, fs))] H1 := fun k q hk => by
    obtain ⟨i, -, hi⟩ := va_in_of [ws.length] isC hk
    exact hP1 i q hi
  have hFc := va_free (wc := [(q5, .inr (ci, fs))]) hD1 hS1 hA [ws.length] isC
  refine va_callv (va_runIN (As := []) (rest := .ref q5 :: st) ⟨hx, hb, hml, hown, hts⟩ (hM l q5 H1.size) (⟨va_cnB 0 hts (AWcall hcode) rfl h0.1 h0.2 (hN.2.1 _ hw) (hts _ hini) hdy hR, hnm, hts _ him⟩) ⟨fun a U g mk q => ⟨q.1, q.2.1, q.2.2.1, Nx_blind q.2.2.2⟩, fun U hU hW => ⟨rfl, by rw [hU], by rw [hU]; exact hPc, Nx_call hN hW⟩⟩ rfl rfl hl.1 rfl (lv_room (hst q5)) d3 ⟨hcells, hslots⟩) hS1 (fun q _ h => hFc q h) hFc (fun q t H2 locs2 ht hvm hq hB hz hk2 hS2 => ?_)
  obtain ⟨hB1, hB2⟩ := hB
  rw [ht] at hB1
  obtain ⟨hP2, hD2⟩ := join_last hP1 hD1 hk2 hFc hB1 hB2
  have hk3 := kk q H2 locs2 ls hP2 hD2 hS2 hl
  rw [hq] at hk3
  exact hk3
/-- new, dup, and a public constructor -/
theorem n_newP (C : KN K X A nL cc own rm) {y : MethodName} {bytes : ByteArray} {maxL idx idx2 ci N mc ms : Nat} {rmc : Room} {fs : List Value} {Bk : (Nat → Nat) → va_W} {T : u_T} (ty : Nat → FieldType) (hM : CtI y bytes maxL rmc X ci fs Bk mc ms) (hcl : vwCl[ci]? = some (y.cls, T, N)) (hin : ∀ w ∈ u_ws y.cls T N, w ∈ AW) (hty : ∀ k, k < N → parseFieldDescriptor (T k).2.2.1 = some (ty k)) (hck : Cond.classLink own idx y.cls ∈ AW) (hinst : Cond.instantiable y.cls N ∈ AW) (hini : Cond.initialized y.cls ∈ AW) (hfs : ∀ j, j < N → defaultValue (ty j) = vp_V fs j) (hw : Cond.methodLink own idx2 y ∈ AW) (hcode : Cond.code y bytes maxL none ∈ AW) (him : Cond.instanceMethod y ∈ AW) (hnm : y.name = "<init>") (hdy : y.cls ≠ "java/lang/invoke/MethodHandle" ∧ y.cls ≠ "java/lang/invoke/VarHandle" ∧ (parseMethodDescriptor y.desc).map (fun d => d.parameters.length) = some 0) (h0 : rmc.cells = mc ∧ rmc.slots = ms) (hR : rmc.frames + 1 ≤ rm.frames ∧ 8 + (maxL + 11) + rmc.locals ≤ rm.locals) (hst : ∀ q : Nat, ((Value.ref q :: st).map fun v => v.category).sum ≤ 8) (hcells : cells + 1 + mc ≤ rm.cells) (hslots : slots + N + ms ≤ rm.slots) (d1 : decode cc pc = .ok (.new idx, 3)) (d2 : decode cc (pc + 3) = .ok (.dup, 1)) (d3 : decode cc (pc + 3 + 1) = .ok (.invokespecial idx2, 3)) (kk : ∀ q : Nat → Nat, WN K X A Qg (ws ++ Bk q) nL (cells + 1 + mc) (slots + N + ms) (pc + 3 + 1 + 3) lv (.ref (q 0) :: st)) : WN K X A Qg ws nL cells slots pc lv st := by
  obtain ⟨p, l, e, R, s, m, args, below, meth, c⟩ := K
  obtain ⟨hx, hb, hml, hown, hts, hN, rfl, hA⟩ := C
  intro H locs ls hP hD hS hl
  refine va_new (ci := ci) (fs := fs) hx hb hts hin ty hty hown (hts _ hck) (hts _ hinst) (hts _ hini) hN.1 hP hD hS hA hcl hfs (by omega) (by omega) d1 (fun q5 H1 hP1 hD1 hS1 => ?_)
  refine lv_dup hx hb d2 rfl ?_
  have isC : [ws.length].map (fun i => (ws ++ [(q5, Sum.inr (ci, fs))])[i]?) = [(q5, Sum.inr (ci, fs))].map some := by simp
  have hPc : va_P (dg X) vwCl [(q5, .inr (ci, fs))] H1 := fun k q hk => by
    obtain ⟨i, -, hi⟩ := va_in_of [ws.length] isC hk
    exact hP1 i q hi
  have hFc := va_free (wc := [(q5, .inr (ci, fs))]) hD1 hS1 hA [ws.length] isC
  refine va_callv (va_runI (As := []) (rest := .ref q5 :: st) ⟨hx, hb, hml, hown, hts⟩ (hM l q5 H1.size) (cwI 0 hts (AWcall hcode) rfl h0.1 h0.2 (hts _ hini) (hts _ hw) (hts _ him) hnm hdy hR) ⟨fun a U g mk q => ⟨q.1, q.2.1, q.2.2.1, Nx_blind q.2.2.2⟩, fun U hU hW => ⟨rfl, by rw [hU], by rw [hU]; exact hPc, Nx_call hN hW⟩⟩ rfl rfl hl.1 rfl (lv_room (hst q5)) d3 ⟨hcells, hslots⟩) hS1 (fun q _ h => hFc q h) hFc (fun q t H2 locs2 ht hvm hq hB hz hk2 hS2 => ?_)
  obtain ⟨hB1, hB2⟩ := hB
  rw [ht] at hB1
  obtain ⟨hP2, hD2⟩ := join_last hP1 hD1 hk2 hFc hB1 hB2
  have hk3 := kk q H2 locs2 ls hP2 hD2 hS2 hl
  rw [hq] at hk3
  exact hk3
end NI
