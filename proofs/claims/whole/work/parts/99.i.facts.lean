theorem tbl1 {w : Cond} (i : Nat) (h0 : tables_1_1[i]? = some w) : w ∈ lw_tbl := by
  have h := List.mem_of_getElem? h0
  exact List.mem_append_right _ (List.mem_append_left _ h)
theorem tbl2 {w : Cond} (i : Nat) (h0 : tables_1_2[i]? = some w) : w ∈ lw_tbl := by
  have h := List.mem_of_getElem? h0
  exact List.mem_append_right _ (List.mem_append_right _ (List.mem_append_left _ h))
theorem tbl3 {w : Cond} (i : Nat) (h0 : tables_1_3[i]? = some w) : w ∈ lw_tbl := by
  have h := List.mem_of_getElem? h0
  exact List.mem_append_right _ (List.mem_append_right _ (List.mem_append_right _ (List.mem_append_left _ h)))
theorem tbl4 {w : Cond} (i : Nat) (h0 : tables_1_4[i]? = some w) : w ∈ lw_tbl := by
  have h := List.mem_of_getElem? h0
  exact List.mem_append_right _ (List.mem_append_right _ (List.mem_append_right _ (List.mem_append_right _ (List.mem_append_left _ h))))
theorem tbl5 {w : Cond} (i : Nat) (h0 : tables_1_5[i]? = some w) : w ∈ lw_tbl := by
  have h := List.mem_of_getElem? h0
  exact List.mem_append_right _ (List.mem_append_right _ (List.mem_append_right _ (List.mem_append_right _ (List.mem_append_right _ (List.mem_append_left _ h)))))
theorem tbl6 {w : Cond} (i : Nat) (h0 : tables_1_6[i]? = some w) : w ∈ lw_tbl := by
  have h := List.mem_of_getElem? h0
  exact List.mem_append_right _ (List.mem_append_right _ (List.mem_append_right _ (List.mem_append_right _ (List.mem_append_right _ (List.mem_append_right _ (h))))))
set_option maxRecDepth 20000 in
theorem NF_in : ∀ q ∈ NF, Cond.fieldLinkNest q.1 q.2.1 q.2.2.1 q.2.2.2.1 q.2.2.2.2.1 q.2.2.2.2.2 ∈ lw_tbl := List.forall_mem_cons.mpr ⟨tbl1 33 (by decide +kernel), List.forall_mem_cons.mpr ⟨tbl1 35 (by decide +kernel), List.forall_mem_cons.mpr ⟨tbl1 36 (by decide +kernel), List.forall_mem_cons.mpr ⟨tbl1 67 (by decide +kernel), List.forall_mem_cons.mpr ⟨tbl1 90 (by decide +kernel), List.forall_mem_cons.mpr ⟨tbl1 92 (by decide +kernel), List.forall_mem_cons.mpr ⟨tbl1 105 (by decide +kernel), List.forall_mem_cons.mpr ⟨tbl1 106 (by decide +kernel), List.forall_mem_cons.mpr ⟨tbl1 108 (by decide +kernel), List.forall_mem_cons.mpr ⟨tbl1 110 (by decide +kernel), List.forall_mem_cons.mpr ⟨tbl1 111 (by decide +kernel), List.forall_mem_cons.mpr ⟨tbl1 112 (by decide +kernel), List.forall_mem_cons.mpr ⟨tbl1 113 (by decide +kernel), List.forall_mem_cons.mpr ⟨tbl1 114 (by decide +kernel), List.forall_mem_cons.mpr ⟨tbl1 116 (by decide +kernel), List.forall_mem_cons.mpr ⟨tbl1 117 (by decide +kernel), List.forall_mem_cons.mpr ⟨tbl1 119 (by decide +kernel), List.forall_mem_cons.mpr ⟨tbl1 120 (by decide +kernel), List.forall_mem_cons.mpr ⟨tbl1 122 (by decide +kernel), List.forall_mem_cons.mpr ⟨tbl1 123 (by decide +kernel), List.forall_mem_cons.mpr ⟨tbl1 125 (by decide +kernel), List.forall_mem_cons.mpr ⟨tbl1 126 (by decide +kernel), List.forall_mem_cons.mpr ⟨tbl1 128 (by decide +kernel), List.forall_mem_cons.mpr ⟨tbl1 129 (by decide +kernel), List.forall_mem_cons.mpr ⟨tbl1 131 (by decide +kernel), List.forall_mem_cons.mpr ⟨tbl1 132 (by decide +kernel), List.forall_mem_cons.mpr ⟨tbl1 134 (by decide +kernel), List.forall_mem_cons.mpr ⟨tbl1 136 (by decide +kernel), List.forall_mem_cons.mpr ⟨tbl1 137 (by decide +kernel), List.forall_mem_cons.mpr ⟨tbl1 139 (by decide +kernel), List.forall_mem_cons.mpr ⟨tbl1 140 (by decide +kernel), List.forall_mem_cons.mpr ⟨tbl1 142 (by decide +kernel), List.forall_mem_cons.mpr ⟨tbl1 143 (by decide +kernel), List.forall_mem_cons.mpr ⟨tbl1 145 (by decide +kernel), List.forall_mem_cons.mpr ⟨tbl1 146 (by decide +kernel), List.forall_mem_cons.mpr ⟨tbl1 148 (by decide +kernel), List.forall_mem_cons.mpr ⟨tbl1 149 (by decide +kernel), List.forall_mem_cons.mpr ⟨tbl1 151 (by decide +kernel), List.forall_mem_cons.mpr ⟨tbl1 152 (by decide +kernel), List.forall_mem_cons.mpr ⟨tbl1 194 (by decide +kernel), List.forall_mem_cons.mpr ⟨tbl1 196 (by decide +kernel), List.forall_mem_cons.mpr ⟨tbl1 215 (by decide +kernel), List.forall_mem_cons.mpr ⟨tbl1 239 (by decide +kernel), List.forall_mem_cons.mpr ⟨tbl2 1 (by decide +kernel), List.forall_mem_cons.mpr ⟨tbl2 21 (by decide +kernel), List.forall_mem_cons.mpr ⟨tbl2 23 (by decide +kernel), List.forall_mem_cons.mpr ⟨tbl4 81 (by decide +kernel), fun _ h => absurd h List.not_mem_nil⟩⟩⟩⟩⟩⟩⟩⟩⟩⟩⟩⟩⟩⟩⟩⟩⟩⟩⟩⟩⟩⟩⟩⟩⟩⟩⟩⟩⟩⟩⟩⟩⟩⟩⟩⟩⟩⟩⟩⟩⟩⟩⟩⟩⟩⟩⟩
set_option maxRecDepth 20000 in
theorem NM_in : ∀ q ∈ NM, Cond.methodLinkNest q.1 q.2.1 q.2.2.1 q.2.2.2 ∈ lw_tbl := List.forall_mem_cons.mpr ⟨tbl1 27 (by decide +kernel), List.forall_mem_cons.mpr ⟨tbl1 56 (by decide +kernel), List.forall_mem_cons.mpr ⟨tbl1 85 (by decide +kernel), List.forall_mem_cons.mpr ⟨tbl1 100 (by decide +kernel), List.forall_mem_cons.mpr ⟨tbl1 189 (by decide +kernel), List.forall_mem_cons.mpr ⟨tbl1 207 (by decide +kernel), List.forall_mem_cons.mpr ⟨tbl1 230 (by decide +kernel), List.forall_mem_cons.mpr ⟨tbl2 16 (by decide +kernel), List.forall_mem_cons.mpr ⟨tbl2 82 (by decide +kernel), List.forall_mem_cons.mpr ⟨tbl2 97 (by decide +kernel), List.forall_mem_cons.mpr ⟨tbl2 105 (by decide +kernel), List.forall_mem_cons.mpr ⟨tbl2 113 (by decide +kernel), List.forall_mem_cons.mpr ⟨tbl2 121 (by decide +kernel), List.forall_mem_cons.mpr ⟨tbl2 130 (by decide +kernel), List.forall_mem_cons.mpr ⟨tbl2 138 (by decide +kernel), List.forall_mem_cons.mpr ⟨tbl2 154 (by decide +kernel), List.forall_mem_cons.mpr ⟨tbl2 175 (by decide +kernel), List.forall_mem_cons.mpr ⟨tbl2 183 (by decide +kernel), List.forall_mem_cons.mpr ⟨tbl2 198 (by decide +kernel), List.forall_mem_cons.mpr ⟨tbl2 206 (by decide +kernel), List.forall_mem_cons.mpr ⟨tbl2 210 (by decide +kernel), List.forall_mem_cons.mpr ⟨tbl2 215 (by decide +kernel), List.forall_mem_cons.mpr ⟨tbl2 220 (by decide +kernel), List.forall_mem_cons.mpr ⟨tbl2 233 (by decide +kernel), List.forall_mem_cons.mpr ⟨tbl3 1 (by decide +kernel), List.forall_mem_cons.mpr ⟨tbl3 2 (by decide +kernel), List.forall_mem_cons.mpr ⟨tbl3 18 (by decide +kernel), List.forall_mem_cons.mpr ⟨tbl3 26 (by decide +kernel), List.forall_mem_cons.mpr ⟨tbl3 30 (by decide +kernel), List.forall_mem_cons.mpr ⟨tbl3 38 (by decide +kernel), List.forall_mem_cons.mpr ⟨tbl3 52 (by decide +kernel), List.forall_mem_cons.mpr ⟨tbl3 60 (by decide +kernel), List.forall_mem_cons.mpr ⟨tbl3 67 (by decide +kernel), List.forall_mem_cons.mpr ⟨tbl3 71 (by decide +kernel), List.forall_mem_cons.mpr ⟨tbl3 101 (by decide +kernel), List.forall_mem_cons.mpr ⟨tbl3 106 (by decide +kernel), List.forall_mem_cons.mpr ⟨tbl3 114 (by decide +kernel), List.forall_mem_cons.mpr ⟨tbl3 122 (by decide +kernel), List.forall_mem_cons.mpr ⟨tbl3 123 (by decide +kernel), List.forall_mem_cons.mpr ⟨tbl3 124 (by decide +kernel), List.forall_mem_cons.mpr ⟨tbl3 129 (by decide +kernel), List.forall_mem_cons.mpr ⟨tbl3 137 (by decide +kernel), List.forall_mem_cons.mpr ⟨tbl3 142 (by decide +kernel), List.forall_mem_cons.mpr ⟨tbl3 146 (by decide +kernel), List.forall_mem_cons.mpr ⟨tbl3 147 (by decide +kernel), List.forall_mem_cons.mpr ⟨tbl3 152 (by decide +kernel), List.forall_mem_cons.mpr ⟨tbl3 162 (by decide +kernel), List.forall_mem_cons.mpr ⟨tbl3 174 (by decide +kernel), List.forall_mem_cons.mpr ⟨tbl3 186 (by decide +kernel), List.forall_mem_cons.mpr ⟨tbl3 190 (by decide +kernel), List.forall_mem_cons.mpr ⟨tbl3 195 (by decide +kernel), List.forall_mem_cons.mpr ⟨tbl3 199 (by decide +kernel), List.forall_mem_cons.mpr ⟨tbl3 201 (by decide +kernel), List.forall_mem_cons.mpr ⟨tbl3 214 (by decide +kernel), List.forall_mem_cons.mpr ⟨tbl3 222 (by decide +kernel), List.forall_mem_cons.mpr ⟨tbl3 230 (by decide +kernel), List.forall_mem_cons.mpr ⟨tbl4 17 (by decide +kernel), List.forall_mem_cons.mpr ⟨tbl4 32 (by decide +kernel), List.forall_mem_cons.mpr ⟨tbl4 61 (by decide +kernel), List.forall_mem_cons.mpr ⟨tbl4 65 (by decide +kernel), List.forall_mem_cons.mpr ⟨tbl4 79 (by decide +kernel), List.forall_mem_cons.mpr ⟨tbl4 94 (by decide +kernel), fun _ h => absurd h List.not_mem_nil⟩⟩⟩⟩⟩⟩⟩⟩⟩⟩⟩⟩⟩⟩⟩⟩⟩⟩⟩⟩⟩⟩⟩⟩⟩⟩⟩⟩⟩⟩⟩⟩⟩⟩⟩⟩⟩⟩⟩⟩⟩⟩⟩⟩⟩⟩⟩⟩⟩⟩⟩⟩⟩⟩⟩⟩⟩⟩⟩⟩⟩⟩
theorem AO_row : Cond.arrayOver (.object "DoorVotes$Row") ∈ lw_tbl := tbl1 24 (by decide +kernel)
theorem AO_town : Cond.arrayOver (.object "DoorVotes$Town") ∈ lw_tbl := tbl1 186 (by decide +kernel)
theorem LS_0 : Cond.laysStatic "DoorVotes" "KIND_ABOVE" "[I" ∈ lw_tbl := tbl4 56 (by decide +kernel)
theorem LS_1 : Cond.laysStatic "DoorVotes$Asker" "SIZE_BODIES" "[I" ∈ lw_tbl := tbl4 67 (by decide +kernel)
theorem LS_2 : Cond.laysStatic "DoorVotes$Asker" "MARK_BODIES" "[I" ∈ lw_tbl := tbl4 69 (by decide +kernel)
section FA
variable {s : State} {b : Nat}
theorem sT_0 (hgv : (Jvm.Cond.and given_1 narrow_1).before #[Value.ref b] s = true) : ∃ t : Nat, (Term.static "DoorVotes" "KIND_ABOVE" "[I").eval #[Value.ref b] s none [] s = some (.ref t) ∧ va_T .int t 6 (fun j => .int (tb 0 j)) (fun q => s.heap.size ≤ q) s s.heap := by
  have hs := flat_of_before _ hgv
  refine va_Tof (N := 6) (by decide) (hs (Cond.arrayOf (Term.static "DoorVotes" "KIND_ABOVE" "[I") .int) (by decide +kernel)) (va_eqt (hs (Cond.eq (.length (Term.static "DoorVotes" "KIND_ABOVE" "[I")) (.int 6)) (by decide +kernel))) (fun j hj => ?_) (fun a h => Nat.not_le.mpr h)
  rcases (by omega : j = 0 ∨ j = 1 ∨ j = 2 ∨ j = 3 ∨ j = 4 ∨ j = 5) with e | e | e | e | e | e <;> subst e
  · exact va_eqt (hs (Cond.eq (.elem (Term.static "DoorVotes" "KIND_ABOVE" "[I") (.int 0)) (.int (-1000000))) (by decide +kernel))
  · exact va_eqt (hs (Cond.eq (.elem (Term.static "DoorVotes" "KIND_ABOVE" "[I") (.int 1)) (.int (0))) (by decide +kernel))
  · exact va_eqt (hs (Cond.eq (.elem (Term.static "DoorVotes" "KIND_ABOVE" "[I") (.int 2)) (.int (1))) (by decide +kernel))
  · exact va_eqt (hs (Cond.eq (.elem (Term.static "DoorVotes" "KIND_ABOVE" "[I") (.int 3)) (.int (1))) (by decide +kernel))
  · exact va_eqt (hs (Cond.eq (.elem (Term.static "DoorVotes" "KIND_ABOVE" "[I") (.int 4)) (.int (0))) (by decide +kernel))
  · exact va_eqt (hs (Cond.eq (.elem (Term.static "DoorVotes" "KIND_ABOVE" "[I") (.int 5)) (.int (4))) (by decide +kernel))
theorem sT_1 (hgv : (Jvm.Cond.and given_1 narrow_1).before #[Value.ref b] s = true) : ∃ t : Nat, (Term.static "DoorVotes$Asker" "SIZE_BODIES" "[I").eval #[Value.ref b] s none [] s = some (.ref t) ∧ va_T .int t 6 (fun j => .int (tb 1 j)) (fun q => s.heap.size ≤ q) s s.heap := by
  have hs := flat_of_before _ hgv
  refine va_Tof (N := 6) (by decide) (hs (Cond.arrayOf (Term.static "DoorVotes$Asker" "SIZE_BODIES" "[I") .int) (by decide +kernel)) (va_eqt (hs (Cond.eq (.length (Term.static "DoorVotes$Asker" "SIZE_BODIES" "[I")) (.int 6)) (by decide +kernel))) (fun j hj => ?_) (fun a h => Nat.not_le.mpr h)
  rcases (by omega : j = 0 ∨ j = 1 ∨ j = 2 ∨ j = 3 ∨ j = 4 ∨ j = 5) with e | e | e | e | e | e <;> subst e
  · exact va_eqt (hs (Cond.eq (.elem (Term.static "DoorVotes$Asker" "SIZE_BODIES" "[I") (.int 0)) (.int (10))) (by decide +kernel))
  · exact va_eqt (hs (Cond.eq (.elem (Term.static "DoorVotes$Asker" "SIZE_BODIES" "[I") (.int 1)) (.int (11))) (by decide +kernel))
  · exact va_eqt (hs (Cond.eq (.elem (Term.static "DoorVotes$Asker" "SIZE_BODIES" "[I") (.int 2)) (.int (12))) (by decide +kernel))
  · exact va_eqt (hs (Cond.eq (.elem (Term.static "DoorVotes$Asker" "SIZE_BODIES" "[I") (.int 3)) (.int (-1000000))) (by decide +kernel))
  · exact va_eqt (hs (Cond.eq (.elem (Term.static "DoorVotes$Asker" "SIZE_BODIES" "[I") (.int 4)) (.int (13))) (by decide +kernel))
  · exact va_eqt (hs (Cond.eq (.elem (Term.static "DoorVotes$Asker" "SIZE_BODIES" "[I") (.int 5)) (.int (14))) (by decide +kernel))
theorem sT_2 (hgv : (Jvm.Cond.and given_1 narrow_1).before #[Value.ref b] s = true) : ∃ t : Nat, (Term.static "DoorVotes$Asker" "MARK_BODIES" "[I").eval #[Value.ref b] s none [] s = some (.ref t) ∧ va_T .int t 6 (fun j => .int (tb 2 j)) (fun q => s.heap.size ≤ q) s s.heap := by
  have hs := flat_of_before _ hgv
  refine va_Tof (N := 6) (by decide) (hs (Cond.arrayOf (Term.static "DoorVotes$Asker" "MARK_BODIES" "[I") .int) (by decide +kernel)) (va_eqt (hs (Cond.eq (.length (Term.static "DoorVotes$Asker" "MARK_BODIES" "[I")) (.int 6)) (by decide +kernel))) (fun j hj => ?_) (fun a h => Nat.not_le.mpr h)
  rcases (by omega : j = 0 ∨ j = 1 ∨ j = 2 ∨ j = 3 ∨ j = 4 ∨ j = 5) with e | e | e | e | e | e <;> subst e
  · exact va_eqt (hs (Cond.eq (.elem (Term.static "DoorVotes$Asker" "MARK_BODIES" "[I") (.int 0)) (.int (20))) (by decide +kernel))
  · exact va_eqt (hs (Cond.eq (.elem (Term.static "DoorVotes$Asker" "MARK_BODIES" "[I") (.int 1)) (.int (21))) (by decide +kernel))
  · exact va_eqt (hs (Cond.eq (.elem (Term.static "DoorVotes$Asker" "MARK_BODIES" "[I") (.int 2)) (.int (24))) (by decide +kernel))
  · exact va_eqt (hs (Cond.eq (.elem (Term.static "DoorVotes$Asker" "MARK_BODIES" "[I") (.int 3)) (.int (22))) (by decide +kernel))
  · exact va_eqt (hs (Cond.eq (.elem (Term.static "DoorVotes$Asker" "MARK_BODIES" "[I") (.int 4)) (.int (23))) (by decide +kernel))
  · exact va_eqt (hs (Cond.eq (.elem (Term.static "DoorVotes$Asker" "MARK_BODIES" "[I") (.int 5)) (.int (-1000000))) (by decide +kernel))
theorem sA_all (hts : ∀ w ∈ lw_tbl, w.before #[Value.ref b] s = true) (hgv : (Jvm.Cond.and given_1 narrow_1).before #[Value.ref b] s = true) : ∃ saF : Nat → Nat, ∀ z, z < 3 → va_Z (sc z) (sn z) "[I" (.ref (saF z)) (fun q => s.heap.size ≤ q) s s.heap ∧ va_T .int (saF z) 6 (fun j => .int (tb z j)) (fun q => s.heap.size ≤ q) s s.heap := by
  obtain ⟨t0, e0, h0⟩ := sT_0 hgv
  obtain ⟨t1, e1, h1⟩ := sT_1 hgv
  obtain ⟨t2, e2, h2⟩ := sT_2 hgv
  refine ⟨fun k => if k = 0 then t0 else if k = 1 then t1 else t2, fun z hz => ?_⟩
  rcases (by omega : z = 0 ∨ z = 1 ∨ z = 2) with e | e | e <;> subst e
  · exact ⟨va_Zof (hts _ LS_0) (hts _ (AW_tbl aw2)) e0 (fun a h => Nat.not_le.mpr h), h0⟩
  · exact ⟨va_Zof (hts _ LS_1) (hts _ (AW_tbl aw24)) e1 (fun a h => Nat.not_le.mpr h), h1⟩
  · exact ⟨va_Zof (hts _ LS_2) (hts _ (AW_tbl aw24)) e2 (fun a h => Nat.not_le.mpr h), h2⟩
theorem sK_all (hts : ∀ w ∈ AW, w.before #[Value.ref b] s = true) : ∃ (dC : Nat → ClassId) (dI : Nat → Nat → Nat), ∀ (k : Nat) (q : vw_C), vwCl[k]? = some q → u_Kn s q.1 q.2.1 q.2.2 (dC k) (dI k) := by
  obtain ⟨c0, i0, h0⟩ := u_known (C := RX0) (T := TX0) (N := 7) (n := 7) hts iaX0 (hts _ aw19)
  obtain ⟨c1, i1, h1⟩ := u_known (C := RX1) (T := TX1) (N := 2) (n := 2) hts iaX1 (hts _ aw23)
  obtain ⟨c2, i2, h2⟩ := u_known (C := RX2) (T := TX2) (N := 3) (n := 3) hts iaX2 (hts _ aw33)
  obtain ⟨c3, i3, h3⟩ := u_known (C := RX3) (T := TX3) (N := 6) (n := 6) hts iaX3 (hts _ aw15)
  obtain ⟨c4, i4, h4⟩ := u_known (C := RX4) (T := TX4) (N := 3) (n := 3) hts iaX4 (hts _ aw44)
  obtain ⟨c5, i5, h5⟩ := u_known (C := RX5) (T := TX5) (N := 6) (n := 6) hts iaX5 (hts _ aw41)
  obtain ⟨c6, i6, h6⟩ := u_known (C := RX6) (T := TX6) (N := 16) (n := 16) hts iaX6 (hts _ aw27)
  obtain ⟨c7, i7, h7⟩ := u_known (C := RX7) (T := TX7) (N := 5) (n := 5) hts iaX7 (hts _ aw37)
  obtain ⟨c8, i8, h8⟩ := u_known (C := RX8) (T := TX8) (N := 12) (n := 12) hts iaX8 (hts _ aw1)
  obtain ⟨c9, i9, h9⟩ := u_known (C := RX9) (T := TX9) (N := 21) (n := 21) hts iaX9 (hts _ aw4)
  refine ⟨fun k => [c0, c1, c2, c3, c4, c5, c6, c7, c8, c9].getD k c0, fun k => [i0, i1, i2, i3, i4, i5, i6, i7, i8, i9].getD k i0, fun k q hq => ?_⟩
  match k, hq with
  | 0, hq => cases hq; exact h0
  | 1, hq => cases hq; exact h1
  | 2, hq => cases hq; exact h2
  | 3, hq => cases hq; exact h3
  | 4, hq => cases hq; exact h4
  | 5, hq => cases hq; exact h5
  | 6, hq => cases hq; exact h6
  | 7, hq => cases hq; exact h7
  | 8, hq => cases hq; exact h8
  | 9, hq => cases hq; exact h9
  | k + 10, hq => simp [vwCl] at hq
theorem sY_all (hts : ∀ w ∈ lw_tbl, w.before #[Value.ref b] s = true) : ∃ cyF : Nat → ClassId, (ArrOfT s (cyF 0) .int ∧ va_RA s (cyF 0) .int) ∧ (ArrOfT s (cyF 1) .boolean ∧ va_RA s (cyF 1) .boolean) ∧ (ArrOfT s (cyF 2) (.object "DoorVotes$Row") ∧ va_RA s (cyF 2) (.object "DoorVotes$Row")) ∧ (ArrOfT s (cyF 3) (.object "DoorVotes$Town") ∧ va_RA s (cyF 3) (.object "DoorVotes$Town")) := by
  obtain ⟨c0, k0, p0, a1, a2, a3⟩ := Cond.arrayClass_spec (hts _ (AW_tbl aw49))
  obtain ⟨c1, k1, p1, b1, b2, b3⟩ := Cond.arrayClass_spec (hts _ (AW_tbl aw104))
  obtain ⟨p2, c2, k2, d1, d2, d3, d4, d5⟩ := Cond.arrayOver_spec (hts _ AO_row)
  obtain ⟨p3, c3, k3, e1, e2, e3, e4, e5⟩ := Cond.arrayOver_spec (hts _ AO_town)
  refine ⟨fun k => if k = 0 then c0 else if k = 1 then c1 else if k = 2 then c2 else c3, ⟨fun n z => ⟨fun k h => (by cases h), k0, a2, p0, a3⟩, a1⟩, ⟨fun n z => ⟨fun k h => (by cases h), k1, b2, p1, b3⟩, b1⟩, ⟨fun n z => ⟨fun k h => (by cases h), k2, d3, p2, d4⟩, k2, p2, d3, d4, d1, d5⟩, ⟨fun n z => ⟨fun k h => (by cases h), k3, e3, p3, e4⟩, k3, p3, e3, e4, e1, e5⟩⟩
end FA
