section ROWS2
variable {K : Kt} {X : Cx} {nL : Nat} {cc : ByteArray} {own : String} {rm : Room} {rt : Option FieldType} {Qc : Array Value → State → Outcome → State → Prop} {M : Mem} {pc : Nat} {lv lv2 : List (Nat × Value)} {st : List Value}
theorem in_lit {i : Int32} {n : Nat} (h : ¬ (i < 0 ∨ n ≤ i.toNatClampNeg)) : vp_in i n := h
theorem r_topM (k : ∀ M2 : Mem, M2 = M → WX K X nL Qc M2 pc lv st) : WX K X nL Qc M pc lv st := k M rfl
theorem q_s0 {s0 s1 : List Value} (hs : s0 = s1) (kk : WX K X nL Qc M pc lv s1) : WX K X nL Qc M pc lv s0 := hs ▸ kk
theorem q_iald (C : Kok K X nL cc own rm rt) {k n j : Nat} {i : Int32} (hk : k < 93) (hc : cellA X (M k) k = .inl (cy X 0, n, .inl (M k))) (hi : vp_in i n) (hj : i.toNatClampNeg = j) (hd : decode cc pc = .ok (.iaload, 1)) (kk : WX K X nL Qc M (pc + 1) lv (.int (M k j) :: st)) : WX K X nL Qc M pc lv (.int i :: .ref (ad X k) :: st) := by
  subst hj
  exact r_iald C hk hc hi hd kk
theorem q_zald (C : Kok K X nL cc own rm rt) {k n j : Nat} {i : Int32} (hk : k < 93) (hc : cellA X (M k) k = .inl (cy X 1, n, .inl (M k))) (hi : vp_in i n) (hj : i.toNatClampNeg = j) (hd : decode cc pc = .ok (.baload, 1)) (kk : WX K X nL Qc M (pc + 1) lv (.int (M k j) :: st)) : WX K X nL Qc M pc lv (.int i :: .ref (ad X k) :: st) := by
  subst hj
  exact r_zald C hk hc hi hd kk
theorem q_iast (C : Kok K X nL cc own rm rt) {k n j : Nat} {i x : Int32} (hk : k < 93) (hc : ∀ f, cellA X f k = .inl (cy X 0, n, .inl f)) (hi : vp_in i n) (hj : i.toNatClampNeg = j) (hd : decode cc pc = .ok (.iastore, 1)) (kk : WX K X nL Qc (ms M k j x) (pc + 1) lv st) : WX K X nL Qc M pc lv (.int x :: .int i :: .ref (ad X k) :: st) := by
  subst hj
  exact r_iast C hk hc hi hd kk
theorem q_zast (C : Kok K X nL cc own rm rt) {k n j : Nat} {i x : Int32} (hk : k < 93) (hc : ∀ f, cellA X f k = .inl (cy X 1, n, .inl f)) (hi : vp_in i n) (hj : i.toNatClampNeg = j) (hd : decode cc pc = .ok (.bastore, 1)) (kk : WX K X nL Qc (ms M k j (vp_nar .boolean x)) (pc + 1) lv st) : WX K X nL Qc M pc lv (.int x :: .int i :: .ref (ad X k) :: st) := by
  subst hj
  exact r_zast C hk hc hi hd kk
theorem q_copy {k0 k1 n0 n1 idx a b n2 : Nat} {sp dp n : Int32} (ea : sp.toNatClampNeg = a) (eb : dp.toNatClampNeg = b) (en : n.toNatClampNeg = n2) (C : Kok K X nL cc own rm rt) (hk0 : k0 < 93) (hk1 : k1 < 93) (hc0 : cellA X (M k0) k0 = .inl (cy X 0, n0, .inl (M k0))) (hc1 : ∀ f, cellA X f k1 = .inl (cy X 0, n1, .inl f)) (hw : Cond.methodLink own idx arraycopyName ∈ AW) (hg : ¬ sp < 0 ∧ ¬ dp < 0 ∧ ¬ n < 0 ∧ sp.toNatClampNeg + n.toNatClampNeg ≤ n0 ∧ dp.toNatClampNeg + n.toNatClampNeg ≤ n1) (hfr : 1 ≤ rm.frames) (hlo : (st.map fun v => v.category).sum + (nativeFrameWords "java/lang/System" "arraycopy" 5 + 11) ≤ rm.locals) (hd : decode cc pc = .ok (.invokestatic idx, 3)) (kk : WX K X nL Qc (mcp M k0 k1 a b n2) (pc + 3) lv st) : WX K X nL Qc M pc lv (.int n :: .int dp :: .ref (ad X k1) :: .int sp :: .ref (ad X k0) :: st) := by
  subst ea eb en
  exact r_copy C hk0 hk1 hc0 hc1 hw hg hfr hlo hd kk
end ROWS2
